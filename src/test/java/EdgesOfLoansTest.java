/** Promises 12 to 18: each sentence of the document that names an edge has rows of its own; the title tells it. */
public final class EdgesOfLoansTest {
    /** Bank 0 has 12000 bonds then, which it bought at 100, and reserves of 8000. */
    private static final String MANY_BONDS = "endow 0 10000 = 10000; endow 0 10000 = 20000\n"
            + Script.counting(12, "bid 0 100 1000", 1, 1) + "auction 10000 50 = 100\n"
            + Script.counting(2, "bid 0 100 1000", 1, 1) + "auction 2000 50 = 100; ofBank 0 2 = 12000; ofBank 0 0 = 8000\n";

    public static void main(String[] args) {
        endows();
        lends();
        ruleOfCapital();
        twentyLoans();
        paysBack();
        reservesOfPayingBack();
        windows();
        rules();
        buysBonds();
        Script.end();
    }

    private static void endows() {
        Script.run("12 endow: amount: 1 to 10000", "endow 0 1 = 1; endow 0 10000 = 10001; endow 0 9999 = 20000; endow 0 2 = 20002\n"
                + Script.beyond("endow 0 @", 1, 10000, "argument") + "endow 0 1 = 20003; central = -20003; centralAnew = -20003");
        Script.run("12 endow: there is no such bank", "endow 0 1 = 1; endow 3 1 = 1\n" + Script.beyond("endow @ 1", 0, 3, "index"));
        Script.run("12 endow: the bank has failed", "endow 2 1 = 1; fail 2 = 0; endow 2 1 ! state; endow 1 1 = 1; endow 3 1 = 1");
        Script.run("12 endow: the first one named is thrown", """
            fail 0 = 0; endow 4 0 ! index; endow -1 10001 ! index; endow 0 0 ! argument; endow 0 10001 ! argument; endow 0 10000 ! state
            """);
    }

    private static void lends() {
        Script.run("13 lend: amount: 1 to 10000", "rules 0 0 0 = 0; open 0 0 = 1; lend 0 0 1 0 = 0; lend 0 0 10000 0 = 1\n"
                + Script.beyond("lend 0 0 @ 0", 1, 10000, "argument") + "lend 0 0 9999 0 = 2; money = 20000");
        Script.run("13 lend: rate: 0 to 100", "rules 0 0 0 = 0; open 0 0 = 1; lend 0 0 1 0 = 0; lend 0 0 1 100 = 1\n"
                + Script.beyond("lend 0 0 1 @", 0, 100, "argument") + "lend 0 0 1 1 = 2; lend 0 0 1 99 = 3");
        Script.run("13 lend: there is no such bank or holder", "rules 0 0 0 = 0; open 0 0 = 1; open 15 3 = 1\n"
                + Script.beyond("lend @ 0 1 0", 0, 3, "index") + Script.beyond("lend 0 @ 1 0", 0, 15, "index")
                + "lend 4 16 1 0 ! index; lend 3 15 1 0 = 0; lend 0 0 1 0 = 1");
        Script.run("13 lend: the holder has no account there", """
            rules 0 0 0 = 0; lend 0 0 1 0 ! state; open 0 1 = 1; lend 0 0 1 0 ! state; lend 1 0 1 0 = 0; lend 2 0 1 0 ! state
            """);
        Script.run("13 lend: the bank has failed", "rules 0 0 0 = 0; open 0 0 = 1; fail 0 = 0; lend 0 0 1 0 ! state; lend 1 0 1 0 = 0");
        Script.run("13 lend: the first one named is thrown", """
            lend 4 0 0 0 ! index; lend 0 16 1 101 ! index; lend 0 -1 0 -1 ! index; lend 0 0 0 0 ! argument; lend 0 0 1 101 ! argument
            lend 0 0 10001 -1 ! argument; lend 0 0 10000 100 ! state
            """);
    }

    private static void ruleOfCapital() {
        Script.run("13 lend: 10 percent at first, of its loans then; the share is rounded down", """
            open 0 0 = 1; lend 0 0 10 0 ! state; lend 0 0 9 0 = 0; lend 0 0 1 0 ! state
            endow 0 1 = 1; lend 0 0 11 0 ! state; lend 0 0 10 0 = 1
            """);
        Script.run("13 lend: a rule of 0 percent", "rules 0 0 10 = 0; open 0 0 = 1; lend 0 0 10000 0 = 0; lend 0 0 10000 0 = 1; ofBank 0 6 = 0");
        Script.run("13 lend: a rule of 1 percent", "rules 0 1 10 = 0; open 0 0 = 1; lend 0 0 100 0 ! state; lend 0 0 99 0 = 0");
        Script.run("13 lend: a rule of 100 percent", """
            rules 0 100 10 = 0; open 0 0 = 1; lend 0 0 1 0 ! state; endow 0 50 = 50; lend 0 0 51 0 ! state; lend 0 0 50 0 = 0
            lend 0 0 1 0 ! state
            """);
        Script.run("13 lend: of loans counts what is left of them", """
            rules 0 100 10 = 0; open 0 0 = 1; endow 0 50 = 50; lend 0 0 50 0 = 0; payBack 0 20 = 30; lend 0 0 21 0 ! state
            lend 0 0 20 0 = 1; ofBank 0 6 = 50
            """);
        Script.run("13 lend: capital is all that it has, bonds counting 1 each, less all that it owes", """
            rules 0 100 0 = 0; open 0 0 = 1; endow 0 10 = 10; bid 0 50 10 = 1; auction 10 9 = 50; window 0 9 = 9
            mint 0 5 = 5; bring 0 5 = 5; ofBank 0 6 = 15; lend 0 0 16 0 ! state; lend 0 0 15 0 = 0
            """);
        Script.run("13 lend: loans of other banks do not count", """
            rules 0 100 0 = 0; open 0 0 = 1; open 1 1 = 1; endow 0 5 = 5; endow 1 7 = 7; lend 0 0 5 0 = 0; lend 1 1 8 0 ! state
            lend 1 1 7 0 = 1
            """);
    }

    private static void twentyLoans() {
        String nineteen = "rules 0 0 0 = 0; open 0 0 = 1; open 1 1 = 1\n" + Script.counting(19, "lend 0 0 1 0", 0, 1);
        Script.run("13 lend: there were 20", nineteen + "ofLoan 19 0 ! index; lend 1 1 1 0 = 19; ofLoan 19 0 = 1; lend 0 0 1 0 ! state\n"
                + "lend 1 1 1 0 ! state; ofLoan 20 0 ! index; payBack 20 1 ! index; payBack 19 1 = 0");
        Script.run("13 lend: there were 20, those that are paid back or taken over, too", nineteen + "lend 0 0 1 0 = 19\n"
                + "payBack 0 1 = 0; lend 0 0 1 0 ! state; fail 1 = 0; lend 0 0 1 0 ! state; fail 0 = 19; lend 2 0 1 0 ! state");
        Script.run("27 day: the interest of each of 20 loans", "rules 0 0 0 = 0; open 10 0 = 1\n"
                + Script.counting(20, "lend 0 10 1000 1", 0, 1) + "day 1 = 4; ofHolder 10 1 = 19980");
    }

    private static void paysBack() {
        String two = "rules 0 0 0 = 0; open 0 0 = 1; lend 0 0 10000 0 = 0; lend 0 0 10000 0 = 1\n";
        Script.run("14 payBack: amount: 1 to 10000", two + Script.beyond("payBack 0 @", 1, 10000, "argument")
                + "payBack 0 1 = 9999; payBack 1 10000 = 0; payBack 0 9999 = 0; money = 0");
        Script.run("14 payBack: there is no such loan", "payBack 0 1 ! index\n" + two + Script.beyond("payBack @ 1", 0, 1, "index")
                + "payBack 1 1 = 9999; payBack 0 1 = 9999");
        Script.run("14 payBack: less is left of it", """
            rules 0 0 0 = 0; open 0 0 = 1; lend 0 0 10 0 = 0; lend 0 0 90 0 = 1; payBack 0 11 ! state; payBack 0 10 = 0
            payBack 0 1 ! state; payBack 1 91 ! state; payBack 1 90 = 0; ofHolder 0 1 = 0
            """);
        Script.run("14 payBack: its holder has not so much free", """
            rules 0 0 0 = 0; open 0 0 = 1; open 1 0 = 2; lend 0 0 50 0 = 0; pay 0 1 20 = 0; payBack 0 31 ! state; payBack 0 30 = 20
            payBack 0 1 ! state
            """);
        Script.run("14 payBack: what is blocked is not free", """
            rules 0 0 0 = 0; open 0 0 = 1; open 1 1 = 1; lend 0 0 50 0 = 0; pay 0 1 20 = 0; payBack 0 31 ! state; payBack 0 30 = 20
            payBack 0 1 ! state; ofHolder 0 1 = 20
            """);
        Script.run("14 payBack: its holder has no account", """
            rules 0 0 0 = 0; open 0 0 = 1; lend 0 0 5 0 = 0; draw 0 5 = 0; draw 0 5 = 5; close 0 = 1; payBack 0 1 ! state
            open 0 1 = 1; bring 0 5 = 5; endow 1 1 = 1; payBack 0 1 = 4
            """);
        Script.run("14 payBack: the first one named is thrown", """
            payBack 0 0 ! index; rules 0 0 0 = 0; open 0 0 = 1; lend 0 0 5 0 = 0; payBack 1 0 ! index; payBack -1 10001 ! index
            payBack 1 6 ! index; payBack 0 0 ! argument; payBack 0 10001 ! argument; payBack 0 10000 ! state
            """);
    }

    private static void reservesOfPayingBack() {
        Script.run("14 payBack: at the bank that has the loan no reserves are asked for", """
            rules 0 0 0 = 0; open 0 0 = 1; lend 0 0 5 0 = 0; ofBank 0 0 = 0; payBack 0 5 = 0; ofBank 0 0 = 0
            """);
        Script.run("14 payBack: at another bank the reserves are not there", """
            rules 0 0 0 = 0; open 0 0 = 1; open 1 0 = 2; lend 0 0 50 0 = 0; pay 0 1 50 = 0; close 0 = 0; open 0 1 = 1
            mint 0 50 = 50; bring 0 50 = 50; payBack 0 1 ! state; endow 1 20 = 20; payBack 0 21 ! state; payBack 0 20 = 30
            ofBank 1 0 = 0; ofBank 0 0 = 20; payBack 0 1 ! state
            """);
        Script.run("14 payBack: to the central bank: they go, and nobody gets them; if they are there", """
            rules 0 0 0 = 0; open 0 0 = 1; lend 0 0 100 0 = 0; fail 0 = 100; draw 0 60 = 60; bring 0 60 = 60; ofBank 1 0 = 40
            payBack 0 41 ! state; payBack 0 40 = 60; ofBank 1 0 = 0; ofBank 0 0 = 0; payBack 0 1 ! state
            central = 0; centralAnew = 0; money = 60
            """);
    }

    private static void windows() {
        Script.run("15 window: amount: 1 to 10000", MANY_BONDS + Script.beyond("window 0 @", 1, 10000, "argument")
                + "window 0 1 = 1; window 0 10000 = 10001; ofBank 0 0 = 18001");
        Script.run("15 window: there is no such bank", Script.beyond("window @ 1", 0, 3, "index") + "window 0 1 ! state; window 3 1 ! state");
        Script.run("15 window: it has no bonds", "endow 0 100 = 100; window 0 1 ! state; ofBank 0 5 = 0");
        Script.run("15 window: 90 percent of its bonds, rounded down", """
            endow 0 100 = 100; bid 0 100 1 = 1; auction 1 9 = 100; window 0 1 ! state
            bid 0 100 1 = 1; auction 1 9 = 100; window 0 2 ! state; window 0 1 = 1; window 0 1 ! state
            bid 0 100 8 = 1; auction 8 9 = 100; window 0 9 ! state; window 0 8 = 9; window 0 1 ! state
            """);
        Script.run("15 window: 90 percent of many bonds", MANY_BONDS + "window 0 10000 = 10000; window 0 801 ! state; window 0 800 = 10800\n"
                + "window 0 1 ! state; buyBonds 0 1 = 11999; window 0 1 ! state; windowBack 0 2 = 10798; window 0 2 ! state; window 0 1 = 10799");
        Script.run("15 window: the bank has failed", "endow 1 100 = 100; bid 1 100 50 = 1; auction 50 9 = 100; window 1 5 = 5\n"
                + "fail 1 = 0; window 1 1 ! state; ofBank 1 5 = 0");
        Script.run("15 window: the first one named is thrown", "window 4 0 ! index; window -1 10001 ! index; window 0 0 ! argument; window 0 10001 ! argument");
        Script.run("16 windowBack: amount: 1 to 10000", MANY_BONDS + "window 0 10000 = 10000; window 0 800 = 10800\n"
                + Script.beyond("windowBack 0 @", 1, 10000, "argument") + "windowBack 0 1 = 10799; windowBack 0 10000 = 799");
        Script.run("16 windowBack: there is no such bank", Script.beyond("windowBack @ 1", 0, 3, "index"));
        Script.run("16 windowBack: less was lent", """
            endow 0 100 = 100; windowBack 0 1 ! state; bid 0 100 50 = 1; auction 50 9 = 100; window 0 9 = 9; windowBack 0 10 ! state
            windowBack 0 9 = 0; windowBack 0 1 ! state; ofBank 0 0 = 50
            """);
        Script.run("16 windowBack: there are fewer reserves", """
            rules 0 0 0 = 0; open 10 0 = 1; endow 0 10 = 10; bid 0 100 10 = 1; auction 10 9 = 100; window 0 9 = 9; lend 0 10 9 0 = 0
            draw 10 4 = 4; windowBack 0 6 ! state; windowBack 0 5 = 4; windowBack 0 1 ! state; ofBank 0 0 = 0
            """);
        Script.run("16 windowBack: the first one named is thrown", """
            windowBack 4 0 ! index; windowBack -1 10001 ! index; windowBack 0 0 ! argument; windowBack 0 10001 ! argument
            """);
    }

    private static void rules() {
        Script.run("17 rules: rate: 0 to 100", "rules 1 10 10 = 0; rules 100 10 10 = 1; rules 0 10 10 = 100; rules 99 10 10 = 0\n"
                + Script.beyond("rules @ 10 10", 0, 100, "argument") + "rules 5 10 10 = 99");
        Script.run("17 rules: capital: 0 to 100", "rules 1 0 10 = 0; rules 2 100 10 = 1\n"
                + Script.beyond("rules 3 @ 10", 0, 100, "argument") + "rules 4 1 10 = 2; rules 5 99 10 = 4");
        Script.run("17 rules: reserve: 0 to 100", "rules 1 10 0 = 0; rules 2 10 100 = 1\n"
                + Script.beyond("rules 3 10 @", 0, 100, "argument") + "rules 4 10 1 = 2; rules 5 10 99 = 4");
        Script.run("17 rules: several are out of range", "rules -1 101 -1 ! argument; rules 101 -1 101 ! argument; rules 0 10 10 = 0");
    }

    private static void buysBonds() {
        Script.run("18 buyBonds: number: 1 to 10000", MANY_BONDS + Script.beyond("buyBonds 0 @", 1, 10000, "argument")
                + "buyBonds 0 1 = 11999; buyBonds 0 10000 = 1999; ofBank 0 0 = 18001; owed = 12000");
        Script.run("18 buyBonds: there is no such bank", Script.beyond("buyBonds @ 1", 0, 3, "index") + "buyBonds 3 1 ! state");
        Script.run("18 buyBonds: it has fewer", """
            buyBonds 0 1 ! state; endow 0 9 = 9; endow 1 9 = 9; bid 0 100 5 = 1; bid 1 100 3 = 2; auction 8 9 = 100
            buyBonds 0 6 ! state; buyBonds 1 4 ! state; buyBonds 0 5 = 0; buyBonds 0 1 ! state; buyBonds 1 3 = 0; owed = 8
            """);
        Script.run("18 buyBonds: those of the earlier auction, up to all of them, and 1 of the next one", """
            endow 0 20 = 20; bid 0 100 5 = 1; auction 5 2 = 100; bid 0 100 5 = 1; auction 5 1 = 100
            buyBonds 0 5 = 5; day 1 = 4; ofBank 0 2 = 0; owed = 5; treasury = 5; day 1 = 4; owed = 0; ofBank 0 0 = 20
            """);
        Script.run("18 buyBonds: 1 of the next one", """
            endow 0 20 = 20; bid 0 100 5 = 1; auction 5 2 = 100; bid 0 100 5 = 1; auction 5 1 = 100
            buyBonds 0 6 = 4; day 1 = 4; ofBank 0 2 = 0; owed = 5; ofBank 0 0 = 20; day 1 = 4; owed = 0; ofBank 0 0 = 20
            """);
        Script.run("18 buyBonds: the bank has failed", "endow 0 9 = 9; bid 0 100 5 = 1; auction 5 9 = 100; fail 0 = 0; buyBonds 0 1 ! state; owed = 5");
        Script.run("18 buyBonds: the first one named is thrown", """
            buyBonds 4 0 ! index; buyBonds -1 10001 ! index; buyBonds 0 0 ! argument; buyBonds 0 10001 ! argument
            """);
    }
}
