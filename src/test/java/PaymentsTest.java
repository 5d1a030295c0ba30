/** Promises 9 to 11: payments, and how they are cleared. */
public final class PaymentsTest {
    public static void main(String[] args) {
        Script.run("9 pay: within a bank at once, to another one it waits", """
            rules 0 0 0 = 0; open 0 0 = 1; open 1 0 = 2; open 2 1 = 1; lend 0 0 100 0 = 0
            pay 0 1 40 = 0; payment 0 = 1; ofHolder 0 1 = 60; ofHolder 1 1 = 40; ofHolder 0 2 = 60
            pay 0 2 25 = 1; payment 1 = 0; ofHolder 0 1 = 60; ofHolder 0 2 = 35; ofHolder 2 1 = 0
            ofBank 0 7 = -25; ofBank 1 7 = 25; ofBank 0 4 = 100
            pay 2 0 1 ! state; pay 0 1 36 ! state; pay 0 1 35 = 2; pay 0 1 1 ! state
            accountAnew 0 = 25; accountAnew 1 = 75; money = 100
            """);
        Script.run("9 pay: wrong", """
            rules 0 0 0 = 0; open 0 0 = 1; lend 0 0 100 0 = 0
            pay 0 1 1 ! state; pay 1 0 1 ! state; open 1 1 = 1
            pay 0 0 1 ! argument; pay 0 1 0 ! argument; pay 0 1 10001 ! argument; pay 5 5 0 ! argument
            pay -1 0 1 ! index; pay 0 16 1 ! index; pay 16 16 0 ! index; payment 0 ! index
            pay 0 1 100 = 0; payment 0 = 0; payment 1 ! index; payment -1 ! index
            """);
        twoHundred();
        Script.run("10 clear: nets are enough", """
            rules 0 0 0 = 0; open 0 0 = 1; open 1 1 = 1; lend 0 0 100 0 = 0; lend 1 1 90 0 = 1
            pay 0 1 100 = 0; pay 1 0 90 = 1; clear = 0
            endow 0 9 = 9; clear = 0; endow 0 1 = 10; clear = 2
            payment 0 = 1; payment 1 = 1; ofBank 0 0 = 0; ofBank 1 0 = 10; ofHolder 0 1 = 90; ofHolder 1 1 = 100
            """);
        Script.run("10 clear: the latest one from the bank that lacks most is left out", """
            rules 0 0 0 = 0; open 0 0 = 1; open 1 1 = 1; open 2 2 = 1; lend 0 0 100 0 = 0; lend 1 1 100 0 = 1
            endow 0 30 = 30; endow 1 5 = 5
            pay 0 2 20 = 0; pay 0 2 10 = 1; pay 0 2 5 = 2; pay 1 2 5 = 3; pay 1 0 3 = 4
            # nets -32 and -8: 0 lacks 2, 1 lacks 3; without 4 0 lacks 5; without 2 both have enough
            clear = 3; payment 0 = 1; payment 1 = 1; payment 2 = 0; payment 3 = 1; payment 4 = 0
            ofBank 0 0 = 0; ofBank 1 0 = 0; ofBank 2 0 = 35; ofBank 0 7 = -2; ofBank 1 7 = -3
            ofHolder 0 1 = 70; ofHolder 0 2 = 65; ofHolder 2 1 = 35
            """);
        // Of several banks that lack as much the lowest is told; no order changes what is done, since a bank is helped
        // by leaving out payments of its own alone.
        Script.run("10 clear: several lack as much", """
            rules 0 0 0 = 0; open 0 0 = 1; open 1 1 = 1; open 2 2 = 1; lend 0 0 100 0 = 0; lend 1 1 100 0 = 1
            pay 0 1 10 = 0; pay 1 0 10 = 1; pay 0 2 5 = 2; pay 1 2 5 = 3
            clear = 2; payment 0 = 1; payment 1 = 1; payment 2 = 0; payment 3 = 0
            endow 1 5 = 5; clear = 1; payment 2 = 0; payment 3 = 1; clear = 0
            """);
        Script.run("10 clear: what lacks is counted beyond the lesser of reserves and limit", """
            rules 0 0 0 = 0; open 0 0 = 1; open 1 1 = 1; open 2 2 = 1; lend 0 0 500 0 = 0; lend 1 1 500 0 = 1
            endow 0 400 = 400; endow 1 20 = 20; limit 0 100 = 1000
            pay 0 2 110 = 0; pay 1 2 40 = 1; pay 1 0 10 = 2; clear = 0
            # 0 lacks 0, 1 lacks 30: 2 is left out, then 0 lacks 10, 1 lacks 20: 1 is, then 0 is
            limit 0 110 = 100; clear = 1; payment 0 = 1; payment 1 = 0; payment 2 = 0; ofBank 0 0 = 290
            """);
        Script.run("11 limit", """
            rules 0 0 0 = 0; open 0 0 = 1; open 1 1 = 1; lend 0 0 3000 0 = 0; endow 0 5000 = 5000
            pay 0 1 1000 = 0; pay 0 1 1 = 1; clear = 1; payment 0 = 1; payment 1 = 0
            limit 0 0 = 1000; clear = 0; limit 0 1 = 0; clear = 1
            limit 0 10000 = 1; limit 0 10001 ! argument; limit 0 -1 ! argument; limit 0 7 = 10000
            limit -1 5 ! index; limit 4 5 ! index; limit 4 -1 ! index; limit 1 6 = 1000; limit 3 5 = 1000
            """);
        Script.run("11 limit of a bank that failed", "limit 2 5 = 1000; fail 2 = 0; limit 2 6 = 5; limit 2 7 = 6");
        Script.end();
    }

    private static void twoHundred() {
        StringBuilder rows = new StringBuilder("rules 0 0 0 = 0; open 0 0 = 1; open 1 0 = 2; open 10 0 = 3\n"
                + "lend 0 0 1000 0 = 0; hire 1 10 5 = 0; pay 0 10 100 = 0\n");
        for (int i = 1; i < 199; i++) rows.append("pay 0 1 1 = ").append(i).append('\n');
        rows.append("buy 0 10 1 = 199; payment 199 = 1; pay 0 1 1 ! state; buy 0 10 1 ! state; payment 200 ! index\n");
        // There is no room for a wage: the work ends.
        rows.append("ofHolder 1 5 = 10; day 1 = 4; ofHolder 1 5 = -1; ofHolder 1 6 = 0; payment 200 ! index");
        Script.run("9 pay: 200 and no more", rows.toString());
    }
}
