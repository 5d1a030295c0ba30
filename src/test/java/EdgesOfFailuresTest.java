/** Promise 28 and the part "A bank fails": each sentence that names an edge has rows of its own; the title tells it. */
public final class EdgesOfFailuresTest {
    private static final String FREE = "rules 0 0 0 = 0\n";

    public static void main(String[] args) {
        fails();
        whatIsGone();
        sureAmounts();
        whatIsLeft();
        whatThereIs();
        whereAccountsGo();
        largeNumbers();
        Script.end();
    }

    private static void fails() {
        Script.run("28 fail: there is no such bank", Script.beyond("fail @", 0, 3, "index") + "fail 0 = 0; fail 3 = 0; fail 1 = 0; fail 2 = 0\n"
                + Script.beyond("fail @", 0, 3, "index"));
        Script.run("28 fail: it has failed", "fail 2 = 0; fail 2 ! state; fail 1 = 0; fail 2 ! state; fail 1 ! state; day 1 = 2; fail 2 ! state");
        Script.run("28 fail: it has failed by a draw", FREE + "open 0 0 = 1; lend 0 0 5 0 = 0; draw 0 5 = 0; fail 0 ! state; fail 1 = 5");
        Script.run("28 fail: an empty bank", "fail 0 = 0; ofBank 0 9 = 1; ofBank 1 0 = 0; central = 0; centralAnew = 0; money = 0");
        Script.run("28 fail: a bank that has failed has nothing, and does nothing any more", FREE + """
            open 0 2 = 1; endow 2 100 = 100; bid 2 100 10 = 1; auction 10 9 = 100; window 2 9 = 9; lend 2 0 50 10 = 0; mint 0 5 = 5; bring 0 5 = 5
            fail 2 = 55; ofBank 2 0 = 0; ofBank 2 1 = 0; ofBank 2 2 = 0; ofBank 2 3 = 0; ofBank 2 4 = 0; ofBank 2 5 = 0; ofBank 2 6 = 0
            ofBank 2 7 = 0; ofBank 2 8 = 0; ofBank 2 9 = 1; open 1 2 ! state; endow 2 1 ! state; lend 2 0 1 0 ! state; window 2 1 ! state
            windowBack 2 1 ! state; buyBonds 2 1 ! state; bid 2 50 1 ! state; fail 2 ! state; limit 2 7 = 1000
            day 5 = 3; day 4 = 3; ofBank 2 0 = 0; ofBank 2 6 = 0; ofBank 2 8 = 0; owed = 0
            """);
    }

    private static void whatIsGone() {
        String three = FREE + "open 0 0 = 1; open 1 1 = 1; open 2 2 = 1; lend 0 0 50 0 = 0; lend 1 1 50 0 = 1; lend 2 2 50 0 = 2\n";
        Script.run("28 fail: payments that wait and come from its accounts", three + "pay 1 2 20 = 0; ofHolder 1 2 = 30; fail 1 = 50; payment 0 = 2; ofHolder 1 2 = 50; clear = 0");
        Script.run("28 fail: payments that wait and go to them", three + "pay 2 1 20 = 0; ofHolder 2 2 = 30; fail 1 = 50; payment 0 = 2; ofHolder 2 2 = 50; ofHolder 2 1 = 50; clear = 0");
        Script.run("28 fail: others wait on", three + "pay 0 2 20 = 0; pay 2 0 5 = 1; fail 1 = 50; payment 0 = 0; payment 1 = 0; endow 0 15 = 65; clear = 2; payment 0 = 1");
        Script.run("28 fail: those that are done stay so", three + """
            endow 1 9 = 9; pay 1 2 9 = 0; clear = 1; fail 1 = 41; payment 0 = 1; ofHolder 2 1 = 59; ofHolder 1 1 = 41; fail 2 = 59; payment 0 = 1
            """);
        Script.run("28 fail: its bids are gone, and no others", """
            endow 1 9 = 9; endow 0 9 = 9; bid 0 60 1 = 1; bid 1 70 2 = 2; bid 0 80 3 = 3; fail 0 = 0; bid 2 50 1 = 2; auction 100 1 = 70
            ofBank 1 2 = 2; ofBank 0 2 = 0
            """);
        Script.run("28 fail: the central bank takes over its bonds and loans", FREE + """
            open 0 0 = 1; endow 0 20 = 20; endow 1 5 = 5; bid 0 100 20 = 1; auction 10 2 = 100; bid 0 100 10 = 1; bid 1 100 5 = 2; auction 15 1 = 100
            lend 0 0 30 0 = 0; lend 0 0 10 0 = 1; payBack 1 10 = 0; fail 0 = 30; ofBank 1 2 = 5; owed = 25
            ofLoan 0 1 = 4; ofLoan 1 1 = 4; ofLoan 0 2 = 30; central = -5; centralAnew = -5
            day 1 = 3; owed = 10; treasury = 10; ofBank 1 2 = 0; day 1 = 3; owed = 0; treasury = 0
            """);
        Script.run("28 fail: its reserves and the notes in its vault are gone", """
            endow 0 30 = 30; open 0 0 = 1; mint 0 12 = 12; bring 0 7 = 7; fail 0 = 7; ofBank 0 0 = 0; ofBank 0 1 = 0; ofBank 1 0 = 7; ofBank 1 1 = 0
            central = -12; centralAnew = -12; money = 12
            """);
        Script.run("28 fail: what the central bank had lent is gone", """
            endow 0 30 = 30; bid 0 100 10 = 1; auction 10 9 = 100; window 0 9 = 9; central = -30; fail 0 = 0; ofBank 0 5 = 0; central = 0; centralAnew = 0
            """);
    }

    private static void sureAmounts() {
        Script.run("28 fail: of each account 100 at most are sure: 99, 100 and 101", FREE + """
            open 0 0 = 1; open 1 0 = 2; open 10 0 = 3; lend 0 0 99 0 = 0; lend 0 1 100 0 = 1; lend 0 10 101 0 = 2; fail 0 = 299
            ofHolder 0 1 = 99; ofHolder 1 1 = 100; ofHolder 10 1 = 100; ofBank 1 0 = 299; ofBank 1 4 = 299
            """);
        Script.run("28 fail: an account with 1, and one with nothing", FREE + """
            open 0 0 = 1; open 1 0 = 2; lend 0 0 1 0 = 0; fail 0 = 1; ofHolder 0 1 = 1; ofHolder 1 1 = 0; ofHolder 1 0 = 1; open 2 1 = 3
            """);
        Script.run("28 fail: sure amounts are paid in any case: there is nothing", FREE + """
            open 0 0 = 1; open 10 0 = 2; open 11 1 = 1; endow 0 50 = 50; lend 0 0 50 10 = 0; pay 0 10 50 = 0; day 2 = 4; ofBank 0 6 = 50
            pay 10 11 1 = 1; draw 10 49 = 49; lend 0 10 80 0 = 1; fail 0 = 81; ofHolder 10 1 = 81; ofHolder 0 1 = 0
            """);
        Script.run("28 fail: sure amounts are paid in any case: what was lent is more than there is", FREE + """
            open 0 0 = 1; open 1 0 = 2; open 10 1 = 1; endow 0 100 = 100; bid 0 50 200 = 1; auction 200 50 = 50; window 0 180 = 180
            buyBonds 0 180 = 20; lend 0 0 160 0 = 0; lend 0 0 200 10 = 1; pay 0 10 360 = 0; clear = 1; lend 0 1 120 0 = 2; day 3 = 4
            ofLoan 1 2 = 0; ofBank 0 6 = 0; ofBank 0 0 = 0; ofBank 0 5 = 180
            # 18 of the bonds and 140 of the loans, less 180: 22 below 0
            fail 0 = 100; ofHolder 1 1 = 100; ofHolder 0 1 = 0; ofBank 1 0 = 460; central = -80; centralAnew = -80
            """);
    }

    private static void whatIsLeft() {
        // Half of the loan is 50; the account has 1 above what is sure.
        String one = FREE + "open 0 0 = 1; lend 0 0 101 0 = 0\n";
        Script.run("28 fail: nothing is left for what is above", one + "endow 0 50 = 50; fail 0 = 100; ofHolder 0 1 = 100");
        Script.run("28 fail: 1 is left for what is above", one + "endow 0 51 = 51; fail 0 = 101; ofHolder 0 1 = 101");
        Script.run("28 fail: 1 is lacking for what is sure", one + "endow 0 49 = 49; fail 0 = 100; ofHolder 0 1 = 100");
        Script.run("28 fail: 2 are left for 1: at most its own part", one + "endow 0 52 = 52; fail 0 = 101; ofHolder 0 1 = 101; ofBank 1 0 = 101");
        // Half of the loans is 140; the accounts have 50 and 30 above what is sure.
        String two = FREE + "open 0 0 = 1; open 1 0 = 2; lend 0 0 150 0 = 0; lend 0 1 130 0 = 1\n";
        Script.run("28 fail: half of it is left", two + "endow 0 100 = 100; fail 0 = 240; ofHolder 0 1 = 125; ofHolder 1 1 = 115");
        Script.run("28 fail: each part is rounded down", two + "endow 0 101 = 101; fail 0 = 240; ofHolder 0 1 = 125; ofHolder 1 1 = 115; ofBank 1 0 = 240; central = 40; centralAnew = 40");
        Script.run("28 fail: 1 is left for two", two + "endow 0 61 = 61; fail 0 = 200; ofHolder 0 1 = 100; ofHolder 1 1 = 100");
        Script.run("28 fail: all of it is left", two + "endow 0 140 = 140; fail 0 = 280; ofHolder 0 1 = 150; ofHolder 1 1 = 130");
        Script.run("28 fail: all but 1 is left", two + "endow 0 139 = 139; fail 0 = 278; ofHolder 0 1 = 149; ofHolder 1 1 = 129");
        Script.run("28 fail: more than all of it is left", two + "endow 0 1000 = 1000; fail 0 = 280; ofHolder 0 1 = 150; ofHolder 1 1 = 130; ofBank 1 0 = 280");
        Script.run("28 fail: no account is above 100, and something is left", FREE + "open 0 0 = 1; endow 0 500 = 500; lend 0 0 100 0 = 0; fail 0 = 100; ofHolder 0 1 = 100; ofBank 1 0 = 100");
    }

    private static void whatThereIs() {
        String one = FREE + "open 0 0 = 1; open 1 0 = 2\n";
        Script.run("28 fail: 90 percent of its bonds: of 1 none, of 10 it is 9", one + """
            open 10 1 = 1; mint 0 300 = 300; bring 0 300 = 300; endow 0 12 = 12; bid 0 100 1 = 1; auction 1 9 = 100; pay 0 10 11 = 0; clear = 1
            ofBank 0 0 = 0; ofBank 0 2 = 1; fail 0 = 289; ofHolder 0 1 = 289; endow 1 22 = 322; lend 1 0 20 0 = 0; bid 1 100 10 = 1; auction 10 9 = 100
            buyBonds 1 1 = 9; bid 1 100 1 = 1; auction 1 9 = 100; ofBank 1 2 = 10; ofBank 1 0 = 312
            # 312, 9 and 10, and the accounts have 309 and 11
            fail 1 = 320; ofHolder 0 1 = 309
            """);
        Script.run("28 fail: 90 percent of bonds, and 50 percent of loans, each rounded down", one + """
            endow 0 5 = 5; bid 0 100 5 = 1; auction 5 9 = 100; lend 0 0 201 0 = 0; endow 0 10 = 10; fail 0 = 114; ofHolder 0 1 = 114
            central = 87; centralAnew = 87
            """);
        Script.run("28 fail: 90 percent of bonds: 4 of 5", one + """
            endow 0 5 = 5; bid 0 100 5 = 1; auction 5 9 = 100; lend 0 0 200 0 = 0; fail 0 = 104; ofHolder 0 1 = 104
            """);
        Script.run("28 fail: 90 percent of 1000 bonds, 50 percent of loans of 3001", one + """
            endow 0 1000 = 1000; bid 0 100 1000 = 1; auction 1000 9 = 100; lend 0 0 3001 0 = 0; fail 0 = 2400; ofHolder 0 1 = 2400
            """);
        Script.run("28 fail: 50 percent of what is left of loans", one + """
            lend 0 0 300 0 = 0; pay 0 1 50 = 0; payBack 0 50 = 250; fail 0 = 150; ofHolder 0 1 = 100; ofHolder 1 1 = 50
            """);
        Script.run("28 fail: what the central bank had lent comes first", one + """
            endow 0 100 = 100; bid 0 100 100 = 1; auction 100 9 = 100; window 0 90 = 90; lend 0 0 240 0 = 0
            # 90, 90 and 120 less 90
            fail 0 = 210; ofHolder 0 1 = 210; central = 30; centralAnew = 30
            """);
    }

    private static void whereAccountsGo() {
        String four = FREE + "open 0 0 = 1; open 1 1 = 1; open 2 2 = 1; open 3 3 = 1; lend 0 0 10 0 = 0; lend 1 1 11 0 = 1; lend 2 2 12 0 = 2; lend 3 3 13 0 = 3\n";
        Script.run("28 fail: the lowest bank then that has not failed: from 0 to 1", four + "fail 0 = 10; ofHolder 0 0 = 1; ofBank 1 0 = 10; ofBank 1 4 = 21");
        Script.run("28 fail: from 3 to 0", four + "fail 3 = 13; ofHolder 3 0 = 0; ofBank 0 0 = 13; ofBank 0 4 = 23");
        Script.run("28 fail: 0 has failed: from 2 to 1, then from 1 to 3", four + """
            fail 0 = 10; fail 2 = 12; ofHolder 2 0 = 1; ofBank 1 0 = 22; fail 1 = 33; ofHolder 0 0 = 3; ofHolder 1 0 = 3; ofHolder 2 0 = 3; ofBank 3 0 = 33
            """);
        Script.run("28 fail: there is none: the holders get notes, and have no account", four + """
            forge 0 2 = 2; fail 0 = 10; fail 1 = 21; fail 2 = 33; fail 3 = 46; ofHolder 0 0 = -1; ofHolder 3 0 = -1; ofHolder 0 1 = 0; ofHolder 0 3 = 12
            ofHolder 0 4 = 2; ofHolder 1 3 = 11; ofHolder 2 3 = 12; ofHolder 3 3 = 13; accountAnew 3 = 0; money = 46; central = 0; centralAnew = 0
            close 0 ! state; bring 0 1 ! state; draw 0 1 ! state; pay 0 1 1 ! state; levy 0 1 ! state; payBack 0 1 ! state; open 0 3 ! state
            """);
        Script.run("28 fail: all that was blocked is free at the other bank", four + "pay 0 1 10 = 0; ofHolder 0 2 = 0; fail 0 = 10; ofHolder 0 2 = 10; pay 0 1 10 = 1; payment 1 = 1");
        Script.run("28 fail: loans and work stay with the holder", four + "open 10 0 = 2; hire 0 10 3 = 0; fail 0 = 10; ofHolder 0 5 = 10; ofHolder 0 6 = 3; ofLoan 0 0 = 0; payBack 0 10 = 0");
    }

    /** Their products are beyond an int. */
    private static void largeNumbers() {
        Script.run("28 fail: large accounts", "exchange 1000 = 100; open 10 0 = 1; open 11 0 = 2; open 12 1 = 1\n" + Script.counting(200, "abroad 10 1000 true", 10000, 0)
                + Script.counting(100, "abroad 11 1000 true", 10000, 0) + "ofHolder 10 1 = 2000000; fail 0 = 3000000; ofHolder 10 1 = 2000000\n"
                + "ofHolder 11 1 = 1000000; ofBank 1 0 = 3000000; accountAnew 10 = 2000000; levy 10 99 = 1980000; central = 0; centralAnew = 0");
        Script.run("Terms: an object is used for at most 512 calls", "open 0 0 = 1\n" + Script.counting(509, "endow 0 10000", 10000, 10000)
                + "ofBank 0 0 = 5090000; centralAnew = -5090000");
    }
}
