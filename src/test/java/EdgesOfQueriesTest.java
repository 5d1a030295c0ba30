/** Promises 1 and 29 to 42: each sentence that names an edge has rows of its own; the title tells it. */
public final class EdgesOfQueriesTest {
    private static final String FREE = "rules 0 0 0 = 0\n";

    public static void main(String[] args) {
        aNewObject();
        holders();
        logs();
        banks();
        loansAndPayments();
        sums();
        sales();
        Script.end();
    }

    private static void aNewObject() {
        Script.run("1: the day 0", "days = 0; sales 0 true = 0; sales 0 false = 0; sales 1 true ! index; sales -1 true ! index");
        Script.run("1: no accounts", "ofHolder 0 0 = -1; ofHolder 15 0 = -1; ofBank 0 4 = 0; ofBank 3 4 = 0; close 0 ! state; open 0 0 = 1");
        Script.run("1: no notes", "ofHolder 0 3 = 0; ofHolder 15 4 = 0; ofBank 0 1 = 0; money = 0; hand 0 1 1 ! state");
        Script.run("1: no loans", "ofLoan 0 0 ! index; payBack 0 1 ! index; ofBank 0 3 = 0");
        Script.run("1: no bonds", "owed = 0; ofBank 0 2 = 0; buyBonds 0 1 ! state; auction 1 1 = -1");
        Script.run("1: nothing else", "payment 0 ! index; treasury = 0; foreign = 0; central = 0; centralAnew = 0; clear = 0; bid 0 50 1 = 1; limit 0 1 = 1000; exchange 10 = 100; rules 1 1 1 = 0");
        Script.run("29 days: 0 at first, 200 at last", "days = 0\n" + Script.counting(40, "day 5", 4, 0) + "days = 200; day 1 ! state; days = 200");
    }

    private static void holders() {
        Script.run("30 ofHolder: what is out of range", Script.beyond("ofHolder 0 @", 0, 7, "argument") + Script.beyond("ofHolder 15 @", 0, 7, "argument")
                + "ofHolder 0 0 = -1; ofHolder 0 7 = 10; ofHolder 15 7 = 0");
        Script.run("30 ofHolder: there is no such holder", Script.beyond("ofHolder @ 0", 0, 15, "index") + Script.beyond("ofHolder @ 8", 0, 15, "index")
                + "ofHolder 15 0 = -1");
        Script.run("30 ofHolder: its bank, NONE without an account", "ofHolder 0 0 = -1; open 0 3 = 1; ofHolder 0 0 = 3; close 0 = 3; ofHolder 0 0 = -1; open 0 0 = 1; ofHolder 0 0 = 0");
        Script.run("30 ofHolder: what is in its account, and free: 0 without an account", "ofHolder 0 1 = 0; ofHolder 0 2 = 0; open 0 0 = 1; ofHolder 0 1 = 0; ofHolder 0 2 = 0");
        Script.run("30 ofHolder: its firm, NONE without work; its wage, 0 without work", """
            ofHolder 0 5 = -1; ofHolder 0 6 = 0; hire 0 10 1 = 0; ofHolder 0 5 = 10; ofHolder 0 6 = 1; day 1 = 4; ofHolder 0 5 = -1; ofHolder 0 6 = 0
            ofHolder 10 5 = -1; ofHolder 10 6 = 0
            """);
        Script.run("30 ofHolder: what it expects, 0 for a firm", "ofHolder 9 7 = 10; ofHolder 10 7 = 0; ofHolder 0 7 = 10; day 4 = 4; ofHolder 9 7 = 9; ofHolder 10 7 = 0");
        Script.run("31 accountAnew: there is no such holder", Script.beyond("accountAnew @", 0, 15, "index") + "accountAnew 0 = 0; accountAnew 15 = 0");
        Script.run("31 accountAnew: without an account, and with an empty one", """
            accountAnew 0 = 0; open 0 0 = 1; accountAnew 0 = 0; mint 0 9 = 9; bring 0 9 = 9; accountAnew 0 = 9; draw 0 9 = 9; accountAnew 0 = 0; close 0 = 0
            accountAnew 0 = 0
            """);
        Script.run("41 price: there is no such firm", Script.beyond("price @", 10, 15, "index") + "price 9 ! index; price 0 ! index; price 10 = 10; price 15 = 10");
    }

    /** After each act, across any length of the log that is left to an object of 512 calls. */
    private static void logs() {
        StringBuilder pays = new StringBuilder(FREE + "open 0 0 = 1; open 1 0 = 2; lend 0 0 1000 0 = 0\n");
        for (int i = 0; i < 200; i++) pays.append("pay 0 1 2 = ").append(i).append("; accountAnew 0 = ").append(998 - 2 * i).append('\n');
        Script.run("31 accountAnew: 401 changes", pays + "accountAnew 1 = 400; ofHolder 1 1 = 400; centralAnew = 0; accountAnew 2 = 0");
        Script.run("39 centralAnew: 500 acts", Script.counting(250, "endow 0 3", 3, 3) + Script.counting(250, "mint 0 1", 1, 1) + "centralAnew = -1000; central = -1000");
        StringBuilder mixed = new StringBuilder("open 0 0 = 1\n");
        for (int i = 1; i <= 250; i++) mixed.append("mint 0 1 = 1; bring 0 1 = 1\n");
        Script.run("31, 39: both in turn", mixed + "accountAnew 0 = 250; centralAnew = -250; central = -250; ofHolder 0 1 = 250");
    }

    private static void banks() {
        Script.run("32 ofBank: what is out of range", Script.beyond("ofBank 0 @", 0, 9, "argument") + "ofBank 0 0 = 0; ofBank 0 9 = 0; fail 3 = 0; ofBank 3 9 = 1; ofBank 3 10 ! argument");
        Script.run("32 ofBank: there is no such bank", Script.beyond("ofBank @ 0", 0, 3, "index") + Script.beyond("ofBank @ 10", 0, 3, "index") + "ofBank 3 0 = 0");
        Script.run("32 ofBank: the net of all payments that wait: none, out, in, and even", FREE + """
            open 0 0 = 1; open 1 1 = 1; lend 0 0 50 0 = 0; lend 1 1 50 0 = 1; ofBank 0 7 = 0; pay 0 1 5 = 0; ofBank 0 7 = -5; ofBank 1 7 = 5
            pay 1 0 5 = 1; ofBank 0 7 = 0; ofBank 1 7 = 0; pay 1 0 1 = 2; ofBank 0 7 = 1; ofBank 1 7 = -1; ofBank 2 7 = 0
            """);
        Script.run("32 ofBank: payments that are done or taken back do not wait", FREE + """
            open 0 0 = 1; open 1 1 = 1; open 2 0 = 2; lend 0 0 50 0 = 0; pay 0 2 5 = 0; ofBank 0 7 = 0; endow 0 5 = 5; pay 0 1 5 = 1; clear = 1; ofBank 0 7 = 0
            pay 0 1 5 = 2; ofBank 0 7 = -5; fail 1 = 5; ofBank 0 7 = 0; ofBank 1 7 = 0
            """);
        Script.run("32 ofBank: capital of 0, and above", "ofBank 0 6 = 0; open 0 0 = 1; mint 0 5 = 5; bring 0 5 = 5; ofBank 0 6 = 0; endow 0 1 = 1; ofBank 0 6 = 1");
        Script.run("32 ofBank: of its loans and accounts, what is left, and what is in them", FREE + """
            open 0 0 = 1; lend 0 0 50 0 = 0; lend 0 0 5 0 = 1; ofBank 0 3 = 55; ofBank 0 4 = 55; payBack 0 50 = 0; ofBank 0 3 = 5; ofBank 0 4 = 5; ofBank 1 3 = 0
            payBack 1 5 = 0; ofBank 0 3 = 0; ofBank 0 4 = 0
            """);
    }

    private static void loansAndPayments() {
        String one = FREE + "open 5 2 = 1; lend 2 5 9 0 = 0\n";
        Script.run("33 ofLoan: what is out of range", one + Script.beyond("ofLoan 0 @", 0, 3, "argument") + "ofLoan 0 0 = 5; ofLoan 0 3 = 0");
        Script.run("33 ofLoan: there is no such loan", "ofLoan 0 0 ! index; ofLoan 0 4 ! index\n" + one + Script.beyond("ofLoan @ 0", 0, 0, "index")
                + Script.beyond("ofLoan @ 4", 0, 0, "index") + "ofLoan 1 0 ! index; lend 2 5 1 0 = 1; ofLoan 1 0 = 5; ofLoan 2 0 ! index");
        Script.run("33 ofLoan: the bank that has it, 4 for the central bank", one + "ofLoan 0 1 = 2; fail 2 = 9; ofLoan 0 1 = 4; fail 0 = 9; ofLoan 0 1 = 4; ofLoan 0 0 = 5");
        Script.run("33 ofLoan: nothing is left of it", one + "payBack 0 9 = 0; ofLoan 0 2 = 0; ofLoan 0 1 = 2; ofLoan 0 0 = 5; ofLoan 0 3 = 0");
        Script.run("34 payment: there is no such payment", "payment 0 ! index\n" + one + "open 6 2 = 2; pay 5 6 1 = 0\n" + Script.beyond("payment @", 0, 0, "index")
                + "payment 0 = 1; pay 5 6 10 ! state; payment 1 ! index");
        Script.run("34 payment: WAITS to TAKEN", one + "open 6 3 = 1; pay 5 6 1 = 0; payment 0 = 0; endow 2 1 = 1; clear = 1; payment 0 = 1; pay 5 6 1 = 1; fail 3 = 1; payment 1 = 2; payment 0 = 1");
    }

    private static void sums() {
        Script.run("35 treasury: 0, and what is spent to 0", "treasury = 0; endow 0 9 = 9; bid 0 100 9 = 1; auction 9 9 = 100; treasury = 9; open 0 0 = 1; spend 0 9 = 0; treasury = 0; levy 0 100 = 9; treasury = 9");
        Script.run("36 owed: with banks and with the central bank, until they are paid", """
            owed = 0; endow 0 9 = 9; bid 0 100 9 = 1; auction 9 1 = 100; owed = 9; buyBonds 0 4 = 5; owed = 9; fail 0 = 0; owed = 9; day 1 = 3; owed = 0
            """);
        Script.run("37 foreign: it grows and falls by the amount, at any rate", "foreign = 0; open 10 0 = 1; exchange 10 = 100; abroad 10 1 true = 0; foreign = 1; abroad 10 1 false = 0; foreign = 0");
        Script.run("38 central: 0, below 0, and above", FREE + """
            central = 0; mint 0 1 = 1; central = -1; open 10 0 = 1; lend 0 10 200 0 = 0; fail 0 = 100; central = 99; centralAnew = 99
            """);
        Script.run("38, 39: each act that gives to the central bank, or costs it", FREE + """
            mint 0 10 = 10; centralAnew = -10; endow 0 100 = 100; centralAnew = -110; open 10 0 = 1; lend 0 10 100 100 = 0; day 1 = 4; centralAnew = -110
            bid 0 100 50 = 1; auction 50 50 = 100; window 0 45 = 45; centralAnew = -110; rules 100 0 0 = 0; day 1 = 4; centralAnew = -106; central = -106
            buyBonds 0 5 = 45; windowBack 0 5 = 40; spend 10 5 = 45; levy 10 10 = 8; abroad 10 9 true = 9; centralAnew = -106; central = -106
            fail 0 = 86; centralAnew = 10; central = 10; day 1 = 3; centralAnew = 20; central = 20
            """);
        Script.run("40 money: neither forged notes nor those in vaults", """
            money = 0; forge 0 100 = 100; money = 0; mint 0 100 = 200; money = 100; open 0 0 = 1; bring 0 200 = 100; money = 100; ofBank 0 1 = 100; endow 0 9 = 9
            money = 100
            """);
    }

    private static void sales() {
        String shop = FREE + "open 0 0 = 1; open 10 0 = 2; open 11 1 = 1; lend 0 0 1000 0 = 0\n";
        Script.run("42 sales: a day, up to that of now", shop + Script.beyond("sales @ true", 0, 0, "index") + Script.beyond("sales @ false", 0, 0, "index")
                + "buy 0 10 1 = 0; sales 0 true = 10; day 5 = 4; sales 5 true = 0; sales 6 true ! index; sales 6 false ! index; sales 0 true = 10; sales -1 true ! index");
        Script.run("42 sales: a day on which nothing was bought", shop + "sales 0 true = 0; pay 0 10 9 = 0; sales 0 true = 0; sales 0 false = 0");
        Script.run("42 sales: paid at once", shop + "buy 0 10 1 = 0; buy 0 10 20 = 1; sales 0 false = 210; sales 0 true = 210");
        Script.run("42 sales: waits, and is done on that day", shop + "buy 0 11 5 = 0; sales 0 true = 0; sales 0 false = 0; endow 0 50 = 50; clear = 1; sales 0 true = 50; sales 0 false = 50");
        Script.run("42 sales: waits, and is done a day later", shop + """
            buy 0 11 5 = 0; endow 0 50 = 50; day 1 = 4; payment 0 = 1; sales 0 false = 0; sales 0 true = 50; sales 1 true = 0; sales 1 false = 0
            """);
        Script.run("42 sales: waits for ever, or is taken back", shop + "buy 0 11 5 = 0; day 2 = 4; sales 0 true = 0; fail 1 = 0; payment 0 = 2; sales 0 true = 0; sales 0 false = 0");
        Script.run("42 sales: at the price of that day", shop + "buy 0 10 1 = 0; day 2 = 4; price 10 = 9; buy 0 10 2 = 1; sales 2 false = 18; sales 0 false = 10; sales 1 true = 0");
        Script.run("42 sales: wages are none", shop + "hire 0 10 5 = 0; pay 0 10 100 = 0; day 1 = 4; payment 1 = 1; sales 1 true = 0; sales 1 false = 0");
    }
}
