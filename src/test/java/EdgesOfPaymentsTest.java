/** Promises 9 to 11: each sentence of the document that names an edge has rows of its own; the title tells it. */
public final class EdgesOfPaymentsTest {
    private static final String THREE_BANKS = "rules 0 0 0 = 0; open 0 0 = 1; open 1 1 = 1; open 2 2 = 1\n"
            + "lend 0 0 1000 0 = 0; lend 1 1 1000 0 = 1; lend 2 2 1000 0 = 2\n";

    public static void main(String[] args) {
        pays();
        twoHundred();
        clears();
        clearsInRounds();
        limits();
        Script.end();
    }

    private static void pays() {
        Script.run("9 pay: amount: 1 to 10000", "rules 0 0 0 = 0; open 0 0 = 1; open 1 0 = 2; lend 0 0 10000 0 = 0; lend 0 0 10000 0 = 1\n"
                + "pay 0 1 10001 ! argument; pay 0 1 10000 = 0; pay 0 1 1 = 1; ofHolder 1 1 = 10001; ofHolder 0 1 = 9999\n"
                + Script.beyond("pay 1 0 @", 1, 10000, "argument"));
        Script.run("9 pay: there is no such holder", THREE_BANKS + "open 15 0 = 2; pay 0 15 1 = 0; pay 15 0 1 = 1\n"
                + Script.beyond("pay 0 @ 1", 0, 15, "index") + Script.beyond("pay @ 0 1", 0, 15, "index") + "pay 16 16 1 ! index");
        Script.run("9 pay: both are the same", THREE_BANKS + "pay 0 0 1 ! argument; pay 15 15 1 ! argument; pay 0 0 1000 ! argument");
        Script.run("9 pay: one has no account", THREE_BANKS + """
            pay 0 3 1 ! state; pay 3 0 1 ! state; pay 3 4 1 ! state; payment 0 ! index; open 3 3 = 1; pay 0 3 1 = 0
            """);
        Script.run("9 pay: the first one has not so much free", THREE_BANKS + """
            pay 0 1 1001 ! state; pay 0 1 1 = 0; pay 0 1 1000 ! state; pay 0 1 999 = 1; pay 0 1 1 ! state; ofHolder 0 2 = 0
            """);
        Script.run("9 pay: nothing is in it", "open 0 0 = 1; open 1 0 = 2; pay 0 1 1 ! state");
        Script.run("9 pay: within one bank at once, be it without reserves and with a limit of 0", """
            rules 0 0 0 = 0; limit 0 0 = 1000; open 0 0 = 1; open 1 0 = 2; lend 0 0 5 0 = 0; pay 0 1 5 = 0; payment 0 = 1
            ofHolder 1 2 = 5; clear = 0; ofBank 0 0 = 0
            """);
        Script.run("9 pay: what is blocked is in the account, and is not free", THREE_BANKS + """
            pay 0 1 400 = 0; ofHolder 0 1 = 1000; ofHolder 0 2 = 600; ofHolder 1 1 = 1000; pay 0 1 601 ! state; pay 0 1 600 = 1
            """);
        Script.run("9 pay: the first one named is thrown", THREE_BANKS + """
            pay 16 16 0 ! index; pay 0 16 1001 ! index; pay -1 0 10001 ! index; pay 3 16 1 ! index
            pay 0 0 1001 ! argument; pay 3 3 1 ! argument; pay 0 1 10001 ! argument; pay 3 0 0 ! argument
            """);
    }

    private static void twoHundred() {
        String within = "rules 0 0 0 = 0; open 0 0 = 1; open 1 0 = 2; open 2 1 = 1; open 10 0 = 3; lend 0 0 1000 0 = 0\n";
        Script.run("9 pay: there were 200, done at once", within + Script.counting(200, "pay 0 1 1", 0, 1)
                + "pay 0 1 1 ! state; pay 1 0 1 ! state; payment 0 = 1; payment 199 = 1; payment 200 ! index; ofHolder 0 1 = 800");
        Script.run("9 pay: there were 200, and all wait", within + Script.counting(200, "pay 0 2 1", 0, 1)
                + "pay 0 1 1 ! state; payment 199 = 0; ofBank 0 7 = -200; clear = 0; endow 0 200 = 200; clear = 200\n"
                + "payment 0 = 1; payment 199 = 1; ofHolder 2 1 = 200; pay 0 2 1 ! state");
        Script.run("9 pay: there were 200, those that were taken back, too", within + Script.counting(199, "pay 0 2 1", 0, 1)
                + "fail 1 = 0; payment 198 = 2; pay 0 1 1 = 199; pay 0 1 1 ! state; buy 0 10 1 ! state");
        Script.run("26 buy: there were 200", within + Script.counting(199, "pay 0 1 1", 0, 1)
                + "buy 0 10 1 = 199; buy 0 10 1 ! state; payment 199 = 1; payment 200 ! index");
        Script.run("27 day: a wage is the 200th payment, and no wage the 201st", "hire 0 10 5 = 0; hire 1 10 5 = 0\n" + within
                + "pay 0 10 50 = 0\n" + Script.counting(198, "pay 0 1 1", 1, 1)
                + "day 1 = 4; payment 199 = 1; ofHolder 0 5 = 10; ofHolder 1 5 = -1; ofHolder 1 6 = 0; payment 200 ! index\n"
                + "ofHolder 10 1 = 45; day 1 = 4; ofHolder 0 5 = -1; ofHolder 10 1 = 45");
    }

    private static void clears() {
        Script.run("10 clear: none waits", "clear = 0; open 0 0 = 1; clear = 0; fail 0 = 0; fail 1 = 0; fail 2 = 0; fail 3 = 0; clear = 0");
        Script.run("10 clear: the net is below 0 by as much as the reserves, or by 1 more", THREE_BANKS + """
            pay 0 1 100 = 0; endow 0 99 = 99; clear = 0; payment 0 = 0; endow 0 1 = 100; clear = 1; ofBank 0 0 = 0
            ofBank 1 0 = 100; payment 0 = 1
            """);
        Script.run("10 clear: the net is below 0 by as much as the limit, or by 1 more", THREE_BANKS + """
            endow 0 500 = 500; pay 0 1 100 = 0; limit 0 99 = 1000; clear = 0; limit 0 100 = 99; clear = 1; ofBank 0 0 = 400
            """);
        Script.run("10 clear: the limit is 1000 at first", THREE_BANKS + """
            endow 0 5000 = 5000; lend 0 0 1001 0 = 3; pay 0 1 1001 = 0; clear = 0; pay 1 0 1 = 1; clear = 2; ofBank 0 0 = 4000
            """);
        Script.run("10 clear: a limit of 0 lets what is even, and what comes in", THREE_BANKS + """
            endow 0 500 = 500; endow 1 500 = 500; limit 0 0 = 1000; pay 0 1 10 = 0; clear = 0; pay 1 0 9 = 1; clear = 1
            payment 1 = 1; payment 0 = 0; pay 1 0 10 = 2; clear = 2; payment 0 = 1
            """);
        Script.run("10 clear: a net of 0 needs no reserves", THREE_BANKS + """
            pay 0 1 10 = 0; pay 1 0 10 = 1; limit 0 0 = 1000; limit 1 0 = 1000; clear = 2; ofBank 0 0 = 0; ofBank 1 0 = 0
            """);
        Script.run("10 clear: a net of -1 without reserves lets none", THREE_BANKS + """
            pay 0 1 10 = 0; pay 1 0 9 = 1; clear = 0; payment 0 = 0; payment 1 = 0
            """);
        Script.run("10 clear: those that are done count no more", THREE_BANKS + """
            endow 0 30 = 30; pay 0 1 10 = 0; clear = 1; clear = 0; pay 0 1 10 = 1; pay 0 1 10 = 2; clear = 2; clear = 0
            ofBank 0 0 = 0; ofHolder 0 1 = 970; ofHolder 0 2 = 970; ofHolder 1 1 = 1030
            """);
        Script.run("10 clear: the others wait, in the order in which they were told", THREE_BANKS + """
            endow 0 10 = 10; pay 0 1 10 = 0; pay 0 1 9 = 1; pay 0 1 8 = 2; clear = 1; payment 0 = 1; payment 1 = 0; payment 2 = 0
            endow 0 9 = 9; clear = 1; payment 1 = 1; payment 2 = 0; ofHolder 0 2 = 973; ofHolder 0 1 = 981
            """);
    }

    private static void clearsInRounds() {
        Script.run("10 clear: the latest one is left out, though an earlier one alone would do", THREE_BANKS + """
            endow 0 5 = 5; pay 0 1 5 = 0; pay 0 1 50 = 1; pay 0 1 1 = 2; pay 0 1 2 = 3; clear = 1
            payment 0 = 1; payment 1 = 0; payment 2 = 0; payment 3 = 0
            """);
        Script.run("10 clear: the latest one from the bank that lacks, not the latest one to it or of others", THREE_BANKS + """
            endow 1 5 = 5; pay 0 1 5 = 0; pay 1 2 3 = 1; pay 2 0 2 = 2; clear = 2; payment 0 = 0; payment 1 = 1; payment 2 = 1
            """);
        Script.run("10 clear: what is left out may let another bank lack, one after the other", THREE_BANKS + """
            pay 0 1 50 = 0; pay 1 2 50 = 1; pay 2 0 49 = 2; clear = 0
            payment 0 = 0; payment 1 = 0; payment 2 = 0; endow 0 1 = 1; clear = 3; ofBank 2 0 = 1; ofBank 0 0 = 0
            """);
        Script.run("10 clear: beyond the lesser one of reserves and limit", THREE_BANKS + """
            endow 0 100 = 100; limit 0 10 = 1000; endow 1 10 = 10; limit 1 100 = 1000
            pay 0 2 10 = 0; pay 0 2 1 = 1; pay 1 2 10 = 2; pay 1 2 1 = 3; clear = 2
            payment 0 = 1; payment 1 = 0; payment 2 = 1; payment 3 = 0
            """);
        Script.run("10 clear: the lowest of several banks that lack as much", THREE_BANKS + """
            pay 0 2 5 = 0; pay 1 2 5 = 1; clear = 0; endow 1 5 = 5; clear = 1; payment 0 = 0; payment 1 = 1
            """);
    }

    private static void limits() {
        Script.run("11 limit: 0 to 10000", "limit 0 0 = 1000; limit 0 10000 = 0; limit 0 1 = 10000; limit 0 9999 = 1\n"
                + Script.beyond("limit 0 @", 0, 10000, "argument") + "limit 0 5 = 9999");
        Script.run("11 limit: there is no such bank", "limit 0 1 = 1000; limit 3 1 = 1000\n"
                + Script.beyond("limit @ 5", 0, 3, "index") + "limit 1 1 = 1000; limit 2 1 = 1000");
        Script.run("11 limit: the first one named is thrown", "limit 4 -1 ! index; limit -1 10001 ! index; limit 4 10001 ! index");
        Script.run("11 limit: of 10000", THREE_BANKS + """
            lend 0 0 9001 0 = 3; endow 0 10000 = 10000; endow 0 10000 = 20000; limit 0 10000 = 1000
            pay 0 1 10000 = 0; pay 0 1 1 = 1; clear = 1; payment 0 = 1; payment 1 = 0
            """);
        Script.run("11 limit: of 0", THREE_BANKS + "endow 0 10 = 10; limit 0 0 = 1000; pay 0 1 1 = 0; clear = 0; limit 0 1 = 0; clear = 1");
    }
}
