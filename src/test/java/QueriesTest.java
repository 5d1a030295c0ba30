/** Promises 29 to 42: what is asked. */
public final class QueriesTest {
    public static void main(String[] args) {
        people();
        banksAndLoans();
        money();
        sales();
        longLogs();
        Script.end();
    }

    private static void people() {
        Script.run("29 days", "days = 0; day 3 = 4; days = 3; day 9 ! argument; days = 3; day 1 = 4; days = 4");
        Script.run("30 ofHolder", """
            rules 0 0 0 = 0; open 2 3 = 1; open 1 0 = 1; mint 2 50 = 50; forge 2 10 = 60; bring 2 30 = 25
            pay 2 1 5 = 0; hire 2 14 33 = 0
            ofHolder 2 0 = 3; ofHolder 2 1 = 25; ofHolder 2 2 = 20; ofHolder 2 3 = 30; ofHolder 2 4 = 5
            ofHolder 2 5 = 14; ofHolder 2 6 = 33; ofHolder 2 7 = 10; ofHolder 14 5 = -1; ofHolder 14 6 = 0; ofHolder 14 7 = 0
            ofHolder -1 0 ! index; ofHolder 16 0 ! index; ofHolder 16 8 ! index
            ofHolder 0 -1 ! argument; ofHolder 0 8 ! argument; ofHolder 15 8 ! argument
            """);
        Script.run("31 accountAnew: what came in less what went out", """
            rules 0 0 0 = 0; accountAnew 0 = 0; open 0 0 = 1; open 10 1 = 1; lend 0 0 500 50 = 0; accountAnew 0 = 500
            mint 0 40 = 40; bring 0 40 = 40; accountAnew 0 = 540; draw 0 20 = 20; accountAnew 0 = 520
            endow 0 300 = 300; pay 0 10 100 = 0; accountAnew 0 = 520; clear = 1; accountAnew 0 = 420; accountAnew 10 = 100
            payBack 0 100 = 400; accountAnew 0 = 320; levy 0 10 = 32; accountAnew 0 = 288; spend 0 2 = 30
            accountAnew 0 = 290; day 1 = 4; accountAnew 0 = 270; abroad 10 7 true = 7; accountAnew 10 = 107
            abroad 10 2 false = 2; accountAnew 10 = 105; fail 0 = 270; accountAnew 0 = 270; pay 0 10 270 = 1
            accountAnew 0 = 0; accountAnew 10 = 375; close 0 = 1; accountAnew 0 = 0
            open 0 2 = 1; mint 0 9 = 29; bring 0 9 = 9; accountAnew 0 = 9
            accountAnew -1 ! index; accountAnew 16 ! index; accountAnew 15 = 0
            """);
    }

    private static void banksAndLoans() {
        Script.run("32 ofBank", """
            rules 0 0 0 = 0; open 0 1 = 1; open 1 2 = 1; open 10 1 = 2; mint 0 10 = 10; bring 0 10 = 10; endow 1 100 = 100
            bid 1 50 20 = 1; auction 20 5 = 50; window 1 18 = 18; lend 1 0 300 0 = 0; lend 1 10 45 0 = 1; pay 0 1 30 = 0
            ofBank 1 0 = 108; ofBank 1 1 = 10; ofBank 1 2 = 20; ofBank 1 3 = 345; ofBank 1 4 = 355; ofBank 1 5 = 18
            ofBank 1 6 = 110; ofBank 1 7 = -30; ofBank 2 7 = 30; ofBank 1 8 = 0; ofBank 1 9 = 0
            ofBank -1 0 ! index; ofBank 4 0 ! index; ofBank 4 10 ! index; ofBank 0 -1 ! argument; ofBank 0 10 ! argument
            """);
        Script.run("32 ofBank: short until it is asked again", """
            rules 0 0 10 = 0; rules 0 0 10 = 0; open 10 0 = 1; lend 0 10 10 0 = 0; ofBank 0 8 = 0; day 1 = 4; ofBank 0 8 = 1
            endow 0 1 = 1; ofBank 0 8 = 1; day 1 = 4; ofBank 0 8 = 0; rules 0 0 11 = 0; day 1 = 4; ofBank 0 8 = 1
            fail 0 = 10; ofBank 0 8 = 0; ofBank 0 9 = 1; ofBank 1 8 = 0; day 1 = 3; ofBank 0 8 = 0; ofBank 1 8 = 0
            """);
        Script.run("33 ofLoan", """
            rules 0 0 0 = 0; open 7 3 = 1; open 8 3 = 2; lend 3 7 20 0 = 0; lend 3 8 90 50 = 1; pay 8 7 90 = 0; day 1 = 4
            ofLoan 1 0 = 8; ofLoan 1 1 = 3; ofLoan 1 2 = 90; ofLoan 1 3 = 1; ofLoan 0 0 = 7; ofLoan 0 3 = 0; ofLoan 0 2 = 20
            ofLoan -1 0 ! index; ofLoan 2 0 ! index; ofLoan 2 4 ! index; ofLoan 0 -1 ! argument; ofLoan 0 4 ! argument
            payBack 0 20 = 0; fail 3 = 90; ofLoan 0 1 = 4; ofLoan 1 1 = 4; ofLoan 1 2 = 90; ofLoan 1 3 = 1; ofLoan 1 0 = 8
            """);
        Script.run("34 payment", """
            rules 0 0 0 = 0; payment 0 ! index; open 0 0 = 1; open 1 1 = 1; open 2 0 = 2; lend 0 0 90 0 = 0
            pay 0 1 10 = 0; pay 0 2 10 = 1; pay 0 1 20 = 2; payment 0 = 0; payment 1 = 1; payment 2 = 0; payment 3 ! index
            endow 0 15 = 15; clear = 1; payment 0 = 1; payment 2 = 0; fail 1 = 10; payment 2 = 2; payment 0 = 1
            payment -1 ! index
            """);
    }

    private static void money() {
        Script.run("35 treasury, 36 owed", """
            treasury = 0; owed = 0; endow 0 100 = 100; bid 0 75 100 = 1; auction 50 1 = 75; treasury = 38; owed = 50
            open 0 0 = 1; spend 0 8 = 30; treasury = 30; levy 0 50 = 4; treasury = 34; buyBonds 0 10 = 40; owed = 50
            day 1 = 4; treasury = 0; owed = 16; fail 0 = 4; owed = 16
            """);
        Script.run("37 foreign", """
            foreign = 0; open 13 0 = 1; abroad 13 20 true = 20; foreign = 20; exchange 50 = 100; abroad 13 5 false = 2
            foreign = 15; central = 0; exchange 400 = 50; abroad 13 4 false = 16; foreign = 11; central = 0; centralAnew = 0
            """);
        Script.run("38 central, 39 centralAnew", """
            mint 0 100 = 100; endow 0 50 = 50; central = -150; centralAnew = -150; forge 0 100 = 200; central = -150
            open 0 0 = 1; bring 0 100 = 50; hand 0 1 50 = 25; draw 0 50 = 50; central = -150; centralAnew = -150
            rules 0 0 0 = 0; lend 0 0 400 100 = 0; central = -150; fail 0 = 250; central = 50; centralAnew = 50
            day 1 = 3; central = 90; centralAnew = 90
            """);
        Script.run("40 money: accounts, and good notes with holders, not those in vaults", """
            money = 0; mint 0 100 = 100; forge 0 100 = 200; money = 100; open 0 0 = 1; bring 0 50 = 25; money = 100
            rules 0 0 0 = 0; lend 0 0 30 0 = 0; money = 130; endow 0 70 = 70; money = 130; draw 0 55 = 55; money = 130
            ofBank 0 1 = 0; ofBank 0 0 = 40; hand 0 1 200 = 73; money = 130
            """);
        Script.run("41 price", """
            price 10 = 10; price 15 = 10; price 9 ! index; price 16 ! index; price -1 ! index; day 2 = 4; price 12 = 8
            """);
    }

    private static void sales() {
        Script.run("42 sales: by the day of the goods, with what was done then, or by now", """
            rules 0 0 0 = 0; open 0 0 = 1; open 10 0 = 2; open 11 1 = 1; lend 0 0 1000 0 = 0; endow 0 20 = 20
            buy 0 10 5 = 0; buy 0 11 1 = 1; buy 0 11 2 = 2; pay 0 10 100 = 3
            sales 0 false = 50; sales 0 true = 50; clear = 1; sales 0 false = 60; sales 0 true = 60
            day 1 = 4; payment 2 = 0; sales 0 true = 60; endow 0 10 = 20
            buy 0 10 2 = 4; sales 1 false = 22; sales 0 false = 60
            clear = 1; sales 0 false = 60; sales 0 true = 80; sales 1 true = 22
            buy 0 11 1 = 5; endow 0 50 = 50; day 1 = 4; sales 1 false = 22; sales 1 true = 32; sales 2 true = 0
            sales 2 false = 0; sales 3 true ! index; sales -1 false ! index; hire 0 10 7 = 0; pay 0 10 50 = 6; day 1 = 4
            sales 3 true = 0; sales 3 false = 0; sales 2 true = 0
            """);
        Script.run("42 sales: what is taken back does not count", """
            rules 0 0 0 = 0; open 0 0 = 1; open 10 1 = 1; lend 0 0 100 0 = 0; buy 0 10 5 = 0; fail 1 = 0; payment 0 = 2
            sales 0 true = 0; sales 0 false = 0; day 1 = 3; price 10 = 11; sales 0 true = 0
            """);
    }

    /** More acts than the log has lines. */
    private static void longLogs() {
        StringBuilder rows = new StringBuilder("rules 0 0 0 = 0; open 0 0 = 1; open 10 0 = 2; endow 0 9999 = 9999\n");
        for (int i = 1; i <= 450; i++) rows.append("mint 0 1 = 1; bring 0 1 = 1\n");
        rows.append("accountAnew 0 = 450; accountAnew 10 = 0; centralAnew = -10449; central = -10449\n");
        for (int i = 0; i < 199; i++) rows.append("pay 0 10 2 = ").append(i).append('\n');
        rows.append("accountAnew 0 = 52; accountAnew 10 = 398; ofHolder 0 1 = 52; centralAnew = -10449");
        Script.run("31, 39 a long log", rows.toString());
    }
}
