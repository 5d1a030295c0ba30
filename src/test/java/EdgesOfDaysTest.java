/** Promises 25 to 27: each sentence of the document that names an edge has rows of its own; the title tells it. */
public final class EdgesOfDaysTest {
    private static final String FREE = "rules 0 0 0 = 0\n";

    public static void main(String[] args) {
        hires();
        buys();
        daysGoBy();
        stepsInTheirOrder();
        byTheirNumbers();
        wages();
        interest();
        interestAtAnotherBank();
        overdue();
        interestOfBanks();
        reserves();
        lendingForReserves();
        runs();
        neighbours();
        capital();
        prices();
        expectations();
        Script.end();
    }

    private static void hires() {
        Script.run("25 hire: wage: 1 to 1000", "hire 0 10 1 = 0; hire 0 10 1000 = 1; hire 0 10 2 = 1000; hire 0 10 999 = 2\n"
                + Script.beyond("hire 0 10 @", 1, 1000, "argument") + "ofHolder 0 6 = 999");
        Script.run("25 hire: there is no such household or firm", "hire 0 10 1 = 0; hire 9 15 1 = 0\n"
                + Script.beyond("hire @ 10 1", 0, 9, "index") + Script.beyond("hire 0 @ 1", 10, 15, "index")
                + "hire 10 9 1 ! index; hire 0 0 1 ! index; hire 10 10 1 ! index; ofHolder 9 5 = 15");
        Script.run("25 hire: its wage before, 0 without work", """
            hire 0 10 7 = 0; hire 0 11 8 = 7; ofHolder 0 5 = 11; day 1 = 4; ofHolder 0 5 = -1; hire 0 12 9 = 0
            """);
        Script.run("25 hire: the first one named is thrown", "hire 10 10 0 ! index; hire 0 9 1001 ! index; hire 0 10 0 ! argument; ofHolder 0 5 = -1");
    }

    private static void buys() {
        String two = FREE + "open 0 0 = 1; open 10 0 = 2; lend 0 0 1000 0 = 0\n";
        Script.run("26 buy: units: 1 to 20", two + Script.beyond("buy 0 10 @", 1, 20, "argument")
                + "buy 0 10 1 = 0; buy 0 10 20 = 1; ofHolder 10 1 = 210; buy 0 10 2 = 2; buy 0 10 19 = 3");
        Script.run("26 buy: there is no such household or firm", two + "open 9 0 = 3; open 15 0 = 4; pay 0 9 50 = 0\n"
                + Script.beyond("buy @ 10 1", 0, 9, "index") + Script.beyond("buy 0 @ 1", 10, 15, "index")
                + "buy 10 15 1 ! index; buy 0 9 1 ! index; buy 9 15 1 = 1");
        Script.run("26 buy: it cannot pay: one has no account", two + "buy 1 10 1 ! state; buy 0 11 1 ! state; buy 1 11 1 ! state; buy 0 10 1 = 0");
        Script.run("26 buy: it cannot pay: it has not so much free", FREE + """
            open 0 0 = 1; open 10 0 = 2; open 11 1 = 1; lend 0 0 59 0 = 0; buy 0 10 6 ! state; buy 0 10 5 = 0; buy 0 11 1 ! state
            lend 0 0 1 0 = 1; buy 0 11 1 = 1; buy 0 10 1 ! state; ofHolder 0 2 = 0
            """);
        Script.run("26 buy: a call that is refused sells nothing", two + """
            buy 1 10 5 ! state; buy 0 10 21 ! argument; sales 0 true = 0; day 1 = 4; price 10 = 9; sales 0 true = 0
            """);
        Script.run("26 buy: the first one named is thrown", "buy 10 10 0 ! index; buy 0 16 21 ! index; buy 0 10 0 ! argument; buy 0 10 21 ! argument");
    }

    private static void daysGoBy() {
        Script.run("27 day: days: 1 to 5", Script.beyond("day @", 1, 5, "argument") + "day 1 = 4; days = 1; day 5 = 4; days = 6; day 2 = 4; day 4 = 4");
        String almost = Script.counting(39, "day 5", 4, 0) + "day 4 = 4; days = 199\n";
        Script.run("27 day: there would be more than 200 days", almost + "day 2 ! state; day 5 ! state; day 1 = 4; days = 200; day 1 ! state; days = 200");
        Script.run("27 day: just 200 days by a call of more than 1", Script.counting(40, "day 5", 4, 0) + "days = 200; day 1 ! state; day 5 ! state");
        Script.run("27 day: the first one named is thrown", almost + "day 6 ! argument; day 0 ! argument; day 1 = 4; day 0 ! argument; day 6 ! argument");
        Script.run("27 day: what is refused lets no day go by", almost.replace("days = 199", "days = 199; price 10 = 1")
                + "endow 0 5 = 5; open 0 0 = 1; lend 0 0 50 100 = 0; day 2 ! state; ofHolder 0 1 = 50; day 1 = 4; ofHolder 0 1 = 45");
        Script.run("27 day: how many banks have not failed then: 4 to 0", """
            day 1 = 4; fail 3 = 0; day 1 = 3; fail 0 = 0; day 1 = 2; fail 1 = 0; day 1 = 1; fail 2 = 0; day 1 = 0; day 5 = 0
            """);
        Script.run("27 day: several at once are the same as one after the other", FREE + """
            open 10 0 = 1; lend 0 10 1000 10 = 0; day 5 = 4; ofHolder 10 1 = 950; day 1 = 4; day 1 = 4; ofHolder 10 1 = 930
            """);
    }

    /** Each run would end otherwise if the two steps changed places. */
    private static void stepsInTheirOrder() {
        Script.run("27 day: interest of loans is 2, that of banks is 3: there are reserves for the first of them alone", """
            rules 100 0 0 = 0; endow 0 100 = 100; open 10 0 = 1; lend 0 10 100 100 = 0; draw 10 100 = 100; close 10 = 0; endow 1 100 = 100
            bid 1 100 100 = 1; auction 100 50 = 100; window 1 90 = 90; open 11 1 = 1; lend 1 11 80 0 = 1; draw 11 80 = 80; open 10 1 = 2
            bring 10 100 = 100; ofBank 1 0 = 10; day 1 = 4; ofLoan 0 3 = 0; ofBank 0 0 = 10; ofBank 1 0 = 0; ofBank 1 5 = 99
            """);
        Script.run("27 day: interest of banks is 3, clearing is 4", lentNinety(0) + """
            open 11 1 = 1; lend 0 10 82 0 = 0; pay 10 11 82 = 0; rules 100 0 0 = 0; day 1 = 4; payment 0 = 0; ofBank 0 0 = 81; ofBank 0 5 = 90
            """);
        Script.run("27 day: clearing is 4, bonds that are due are 5", FREE + """
            open 10 0 = 1; open 11 1 = 1; endow 0 10 = 10; bid 0 100 10 = 1; auction 10 1 = 100; lend 0 10 10 0 = 0; pay 10 11 10 = 0
            day 1 = 4; payment 0 = 0; ofBank 0 0 = 10; day 1 = 4; payment 0 = 1; ofBank 1 0 = 10
            """);
        Script.run("27 day: what is short is asked for in 6, households draw in 7", """
            rules 0 0 100 = 0; open 0 0 = 1; endow 0 50 = 50; lend 0 0 51 0 = 0; open 10 0 = 2; pay 0 10 1 = 0; day 1 = 4; ofHolder 0 3 = 50
            """);
        Script.run("27 day: households draw in 7, banks whose capital is below 0 fail in 8", FREE + """
            open 10 0 = 1; open 11 1 = 1; open 1 0 = 2; mint 1 50 = 50; bring 1 50 = 50; lend 0 10 100 10 = 0; endow 0 99 = 99; pay 10 11 99 = 0
            pay 10 1 1 = 1; day 2 = 4; rules 0 0 100 = 0; day 1 = 3; ofHolder 1 3 = 50; ofHolder 1 1 = 1; ofHolder 1 0 = 1
            """);
        Script.run("27 day: prices change in 9, what is expected in 10", "day 3 = 4; price 10 = 7; ofHolder 0 7 = 10; day 1 = 4; price 10 = 6; ofHolder 0 7 = 9");
    }

    private static void byTheirNumbers() {
        Script.run("27 day: loans, by their numbers: there is enough for the first one alone", FREE + """
            open 10 0 = 1; open 11 0 = 2; endow 0 999 = 999; lend 0 10 100 100 = 0; lend 0 10 100 100 = 1; pay 10 11 190 = 0; day 1 = 4
            ofLoan 0 3 = 0; ofLoan 1 3 = 1; ofHolder 10 1 = 0
            """);
        Script.run("27 day: households, by their numbers: there is enough for the first one alone", """
            rules 0 0 100 = 0; open 2 0 = 1; open 7 0 = 2; endow 0 50 = 50; lend 0 2 50 0 = 0; lend 0 7 50 0 = 1; day 1 = 3
            ofHolder 2 3 = 50; ofHolder 7 3 = 0; ofHolder 7 1 = 50; ofHolder 7 0 = 1
            """);
        // What is paid out of 0 comes to 1 before that one fails: of 409 in accounts 408 are there.
        Script.run("27 day: banks whose capital is below 0 fail, by their numbers", FREE + """
            open 10 0 = 1; open 11 1 = 1; open 14 2 = 1; open 12 0 = 2; open 13 1 = 2; mint 12 204 = 204; bring 12 204 = 204; mint 13 204 = 204
            bring 13 204 = 204; lend 0 10 100 10 = 0; lend 1 11 100 10 = 1; endow 0 99 = 99; endow 1 99 = 99; pay 10 14 99 = 0; pay 11 14 99 = 1
            pay 10 12 1 = 2; pay 11 13 1 = 3; day 2 = 4; ofBank 0 6 = 99; ofBank 1 6 = 99; day 1 = 2; ofBank 0 9 = 1; ofBank 1 9 = 1
            ofHolder 12 0 = 2; ofHolder 13 0 = 2; ofHolder 12 1 = 203; ofHolder 13 1 = 204
            """);
    }

    private static void wages() {
        Script.run("27 day: the firm has just the wage free, or 1 less", FREE + """
            open 0 0 = 1; open 1 0 = 2; open 10 0 = 3; open 11 0 = 4; lend 0 10 50 0 = 0; lend 0 11 49 0 = 1
            hire 0 10 50 = 0; hire 1 11 50 = 0; day 1 = 4; ofHolder 0 1 = 50; ofHolder 0 5 = 10; ofHolder 1 1 = 0
            ofHolder 1 5 = -1; ofHolder 1 6 = 0; ofHolder 11 1 = 49; payment 1 ! index
            """);
        Script.run("27 day: the household has no account, or the firm has none", FREE + """
            open 0 0 = 1; open 10 0 = 2; lend 0 10 50 0 = 0; hire 1 10 1 = 0; hire 0 11 1 = 0; day 1 = 4; ofHolder 1 5 = -1
            ofHolder 0 5 = -1; payment 0 ! index
            """);
        Script.run("27 day: by their numbers, as long as there is something", FREE + """
            open 9 0 = 1; open 4 0 = 2; open 10 0 = 3; lend 0 10 9 0 = 0; hire 9 10 5 = 0; hire 4 10 5 = 0; day 1 = 4
            ofHolder 4 1 = 5; ofHolder 9 1 = 0; ofHolder 9 5 = -1; ofHolder 4 5 = 10
            """);
        Script.run("27 day: what is blocked is not free for a wage", FREE + """
            open 0 0 = 1; open 1 1 = 1; open 10 0 = 2; lend 0 10 10 0 = 0; pay 10 1 6 = 0; hire 0 10 5 = 0; day 1 = 4; ofHolder 0 5 = -1
            hire 0 10 4 = 0; day 1 = 4; ofHolder 0 5 = 10; ofHolder 0 1 = 4
            """);
        Script.run("27 day: wages come ahead of interest, and of clearing", FREE + """
            open 0 1 = 1; open 10 0 = 1; lend 0 10 100 10 = 0; endow 0 100 = 100; hire 0 10 100 = 0; day 1 = 4
            payment 0 = 1; ofHolder 0 1 = 100; ofLoan 0 3 = 1; sales 1 true = 0
            """);
    }

    private static void interest() {
        String own = FREE + "open 10 0 = 1; open 11 0 = 2; endow 0 999 = 999\n";
        Script.run("27 day: the holder has just the interest free, or 1 less", own + """
            lend 0 10 100 100 = 0; pay 10 11 90 = 0; day 1 = 4; ofLoan 0 3 = 0; ofHolder 10 1 = 0
            pay 11 10 9 = 1; day 1 = 4; ofLoan 0 3 = 1; ofHolder 10 1 = 9; pay 11 10 1 = 2; day 1 = 4; ofLoan 0 3 = 0; ofHolder 10 1 = 0
            """);
        Script.run("27 day: by 1000, rounded down", own + """
            lend 0 10 999 1 = 0; lend 0 11 1000 1 = 1; day 1 = 4; ofHolder 10 1 = 999; ofHolder 11 1 = 999
            payBack 1 1 = 999; day 1 = 4; ofHolder 11 1 = 998
            """);
        Script.run("27 day: a rate of 0, and one of 100", own + "lend 0 10 1000 0 = 0; lend 0 11 1000 100 = 1; day 1 = 4; ofHolder 10 1 = 1000; ofHolder 11 1 = 900");
        Script.run("27 day: of what is left of it", own + "lend 0 10 1000 50 = 0; payBack 0 500 = 500; day 1 = 4; ofHolder 10 1 = 475; ofLoan 0 2 = 500");
        Script.run("27 day: what is blocked is not free for interest", own + """
            open 12 1 = 1; limit 0 0 = 1000; lend 0 10 100 100 = 0; pay 10 12 91 = 0; day 1 = 4; ofLoan 0 3 = 1; lend 0 10 1 0 = 1
            day 1 = 4; ofLoan 0 3 = 0; ofHolder 10 2 = 0; ofHolder 10 1 = 91
            """);
        Script.run("27 day: interest ends as money, and reserves stay within the bank", own + """
            lend 0 10 100 100 = 0; day 1 = 4; money = 90; ofBank 0 0 = 999; ofBank 0 6 = 1009; central = -999; centralAnew = -999
            """);
        Script.run("27 day: of a loan of which nothing is left", own + """
            lend 0 10 100 100 = 0; pay 10 11 100 = 0; day 2 = 4; ofLoan 0 3 = 2; pay 11 10 100 = 1; payBack 0 100 = 0; day 2 = 4
            ofLoan 0 3 = 2; ofLoan 0 2 = 0; ofHolder 11 1 = 0; ofLoan 0 1 = 0
            """);
    }

    private static void interestAtAnotherBank() {
        String moved = FREE + "open 10 0 = 1; open 11 0 = 2; endow 0 999 = 999; lend 0 10 100 100 = 0; pay 10 11 100 = 0; close 10 = 0\n"
                + "open 10 1 = 1; mint 10 50 = 50; bring 10 50 = 50\n";
        Script.run("27 day: the reserves are just the interest, or 1 fewer", moved + """
            endow 1 9 = 9; day 1 = 4; ofLoan 0 3 = 1; ofHolder 10 1 = 50; ofBank 1 0 = 9; endow 1 1 = 10; day 1 = 4; ofLoan 0 3 = 0
            ofHolder 10 1 = 40; ofBank 1 0 = 0; ofBank 0 0 = 1009; money = 140
            """);
        Script.run("27 day: at another bank it is not free either", moved + "endow 1 99 = 99; draw 10 41 = 41; day 1 = 4; ofLoan 0 3 = 1; ofHolder 10 1 = 9; ofBank 1 0 = 99");
        Script.run("27 day: at another bank, an interest of 0, without reserves", moved + """
            day 1 = 4; ofLoan 0 3 = 1; endow 1 91 = 91; payBack 0 50 = 50; mint 10 50 = 50; bring 10 50 = 50; payBack 0 41 = 9
            ofBank 1 0 = 0; day 1 = 4; ofLoan 0 3 = 0; ofBank 1 0 = 0; ofHolder 10 1 = 9
            """);
        String central = FREE + "open 10 0 = 1; lend 0 10 100 100 = 0; fail 0 = 100; ofHolder 10 0 = 1\n";
        Script.run("27 day: interest to the central bank: reserves go, and nobody gets them", central + """
            ofBank 1 0 = 100; day 1 = 3; ofBank 1 0 = 90; ofHolder 10 1 = 90; central = 10; centralAnew = 10; money = 90; ofLoan 0 3 = 0
            """);
        Script.run("27 day: interest to the central bank: the reserves are just there, or 1 fewer", central + """
            draw 10 91 = 91; bring 10 91 = 91; ofBank 1 0 = 9; day 1 = 3; ofLoan 0 3 = 1; ofHolder 10 1 = 100; endow 1 1 = 10
            day 1 = 3; ofLoan 0 3 = 0; ofBank 1 0 = 0; ofHolder 10 1 = 90; central = 9; centralAnew = 9
            """);
        Script.run("27 day: the central bank writes off, too", central + """
            draw 10 100 = 100; day 2 = 3; central = 0; ofLoan 0 3 = 2; day 1 = 3; ofLoan 0 3 = 3; ofLoan 0 2 = 0; central = -100
            centralAnew = -100; ofLoan 0 1 = 4; day 1 = 3; ofLoan 0 3 = 3
            """);
        Script.run("27 day: its holder has no account", central.replace("fail 0", "fail 3 = 0; fail 2 = 0; fail 1 = 0; fail 0") .replace("ofHolder 10 0 = 1", "")
                + "ofHolder 10 0 = -1; ofHolder 10 3 = 100; day 1 = 0; ofLoan 0 3 = 1; day 1 = 0; ofLoan 0 3 = 2; day 1 = 0; ofLoan 0 3 = 3; ofLoan 0 2 = 0; central = -100");
    }

    private static void overdue() {
        String poor = FREE + "open 10 0 = 1; open 11 0 = 2; endow 0 999 = 999; lend 0 10 100 10 = 0; pay 10 11 100 = 0\n";
        Script.run("27 day: overdue once, twice, three times", poor + """
            day 1 = 4; ofLoan 0 3 = 1; ofLoan 0 2 = 100; day 1 = 4; ofLoan 0 3 = 2; ofLoan 0 2 = 100; ofBank 0 6 = 999
            day 1 = 4; ofLoan 0 3 = 3; ofLoan 0 2 = 0; ofBank 0 6 = 899; ofBank 0 3 = 0; day 1 = 4; ofLoan 0 3 = 3
            """);
        Script.run("27 day: three times within one call", poor + "day 5 = 4; ofLoan 0 3 = 3; ofLoan 0 2 = 0");
        Script.run("27 day: when interest was paid it is overdue no time from then on", poor + """
            day 2 = 4; ofLoan 0 3 = 2; pay 11 10 1 = 1; day 1 = 4; ofLoan 0 3 = 0; day 2 = 4; ofLoan 0 3 = 2; ofLoan 0 2 = 100
            """);
        Script.run("27 day: to pay back is not to pay interest", poor + "day 2 = 4; pay 11 10 1 = 1; payBack 0 1 = 99; ofLoan 0 3 = 2");
        Script.run("27 day: when interest was paid, be it 0", poor + """
            day 2 = 4; pay 11 10 1 = 1; payBack 0 1 = 99; ofHolder 10 2 = 0; day 1 = 4; ofLoan 0 3 = 0; ofLoan 0 2 = 99
            """);
        Script.run("27 day: a loan of which 1 is left has an interest of 0", poor + """
            day 2 = 4; pay 11 10 100 = 1; payBack 0 99 = 1; pay 10 11 1 = 2; ofLoan 0 3 = 2; day 1 = 4; ofLoan 0 3 = 0; ofLoan 0 2 = 1
            """);
        Script.run("27 day: an interest of 0 without an account", poor + """
            day 2 = 4; pay 11 10 1 = 1; payBack 0 1 = 99; close 10 = 0; day 1 = 4; ofLoan 0 3 = 0; ofLoan 0 2 = 99
            """);
        Script.run("27 day: what was written off cannot be paid back", poor + "day 3 = 4; pay 11 10 50 = 1; payBack 0 1 ! state; day 1 = 4; ofHolder 10 1 = 50");
    }

    /** Bank 0 has 100 bonds, 90 lent to it, and reserves of 90 and what is told beyond that. */
    private static String lentNinety(int more) {
        return FREE + "open 10 0 = 1; endow 0 " + (100 + more) + " = " + (100 + more) + "; bid 0 100 100 = 1; auction 100 50 = 100\n"
                + "window 0 90 = 90\n";
    }

    private static void interestOfBanks() {
        Script.run("27 day: a rate of 0", lentNinety(0) + "day 5 = 4; ofBank 0 0 = 90; ofBank 0 5 = 90; centralAnew = -100");
        Script.run("27 day: a rate of 100, by 1000", lentNinety(0) + "rules 100 0 0 = 0; day 1 = 4; ofBank 0 0 = 81; ofBank 0 5 = 90; central = -91; centralAnew = -91");
        Script.run("27 day: it is rounded down", lentNinety(0) + "rules 11 0 0 = 0; day 1 = 4; ofBank 0 0 = 90; rules 12 0 0 = 11; day 1 = 4; ofBank 0 0 = 89");
        Script.run("27 day: by 1000: of 999 at a rate of 1 none, of 1000 it is 1", "endow 0 10000 = 10000; bid 0 100 1000 = 1; bid 0 100 500 = 2\n"
                + "auction 1500 50 = 100; rules 1 0 0 = 0; window 0 999 = 999; day 1 = 4; ofBank 0 0 = 9499; window 0 1 = 1000; day 1 = 4; ofBank 0 0 = 9499\n"
                + "central = -9999; centralAnew = -9999");
        String paidOut = lentNinety(0) + "rules 100 0 0 = 0; lend 0 10 90 0 = 0\n";
        Script.run("27 day: the reserves are just enough", paidOut + "draw 10 81 = 81; day 1 = 4; ofBank 0 0 = 0; ofBank 0 5 = 90; central = -91; centralAnew = -91");
        Script.run("27 day: 1 is missing, and is lent as well", paidOut + "draw 10 82 = 82; day 1 = 4; ofBank 0 0 = 0; ofBank 0 5 = 91; central = -91; centralAnew = -91");
        Script.run("27 day: there are none, and all is lent as well", paidOut + "draw 10 90 = 90; day 1 = 4; ofBank 0 0 = 0; ofBank 0 5 = 99; central = -91; centralAnew = -91");
        Script.run("27 day: the notes in the vault do not pay it", paidOut + "draw 10 90 = 90; bring 10 90 = 90; day 1 = 4; ofBank 0 1 = 90; ofBank 0 5 = 99");
        Script.run("27 day: a bank to which nothing is lent", "rules 100 0 0 = 0; endow 0 50 = 50; day 3 = 4; ofBank 0 0 = 50; ofBank 0 5 = 0; central = -50");
    }

    private static void reserves() {
        String bank = "open 10 0 = 1; endow 0 100 = 100; rules 0 0 R = 0; lend 0 10 1000 0 = 0\n";
        Script.run("27 day: 10 percent at first; just as much, or 1 less", """
            open 10 0 = 1; endow 0 9 = 9; lend 0 10 90 0 = 0; day 1 = 4; ofBank 0 8 = 0; lend 0 10 1 0 = 1; day 1 = 4; ofBank 0 8 = 1
            """);
        Script.run("27 day: the share is rounded up", bank.replace("R", "1") + """
            draw 10 90 = 90; ofBank 0 0 = 10; ofBank 0 4 = 910; day 1 = 4; ofBank 0 8 = 0; draw 10 1 = 1; day 1 = 4; ofBank 0 8 = 1
            """);
        Script.run("27 day: the share is rounded up, be it from a hundredth", """
            rules 0 0 1 = 0; open 10 0 = 1; endow 0 1 = 1; lend 0 10 100 0 = 0; day 1 = 4; ofBank 0 8 = 0; lend 0 10 1 0 = 1; day 1 = 4; ofBank 0 8 = 1
            """);
        Script.run("27 day: what is even is not rounded", bank.replace("R", "10") + "day 1 = 4; ofBank 0 8 = 0; rules 0 0 10 = 0; lend 0 10 1 0 = 1; day 1 = 4; ofBank 0 8 = 1");
        Script.run("27 day: a share of 0 percent", "rules 0 0 0 = 0; open 10 0 = 1; lend 0 10 1000 0 = 0; day 1 = 4; ofBank 0 0 = 0; ofBank 0 8 = 0");
        Script.run("27 day: a share of 100 percent; just as much, or 1 less", """
            rules 0 0 100 = 0; open 10 0 = 1; endow 0 50 = 50; lend 0 10 50 0 = 0; day 1 = 4; ofBank 0 8 = 0; lend 0 10 1 0 = 1; day 1 = 4
            ofBank 0 8 = 1
            """);
        Script.run("27 day: the notes in the vault count", """
            rules 0 0 100 = 0; open 10 0 = 1; mint 10 50 = 50; bring 10 50 = 50; day 1 = 4; ofBank 0 8 = 0; lend 0 10 1 0 = 0; day 1 = 4
            ofBank 0 8 = 1; endow 0 1 = 1; day 1 = 4; ofBank 0 8 = 0
            """);
        Script.run("27 day: what is blocked is in the accounts, too", """
            rules 0 0 100 = 0; open 10 0 = 1; open 11 1 = 1; endow 0 9 = 9; limit 0 0 = 1000; lend 0 10 10 0 = 0; pay 10 11 10 = 0
            day 1 = 4; ofBank 0 8 = 1; endow 0 1 = 10; day 1 = 4; ofBank 0 8 = 0
            """);
        Script.run("27 day: short until this is asked again", """
            rules 0 0 100 = 0; open 10 0 = 1; lend 0 10 5 0 = 0; ofBank 0 8 = 0; day 1 = 4; ofBank 0 8 = 1; endow 0 5 = 5; ofBank 0 8 = 1
            rules 0 0 0 = 0; clear = 0; ofBank 0 8 = 1; day 1 = 4; ofBank 0 8 = 0
            """);
        Script.run("27 day: a bank without accounts, and one that has failed", "rules 0 0 100 = 0; fail 1 = 0; day 1 = 3; ofBank 0 8 = 0; ofBank 1 8 = 0");
        Script.run("27 day: a bank that is short and fails is short no more", """
            rules 0 0 100 = 0; open 10 0 = 1; lend 0 10 5 0 = 0; day 1 = 4; ofBank 0 8 = 1; fail 0 = 5; ofBank 0 8 = 0; day 1 = 3
            ofBank 0 8 = 0; ofBank 1 8 = 0
            """);
    }

    private static void lendingForReserves() {
        String bonds = "open 10 0 = 1; endow 0 10 = 10; bid 0 100 10 = 1; auction 10 50 = 100; rules 0 0 100 = 0\n";
        Script.run("27 day: what is missing is lent", bonds + "lend 0 10 5 0 = 0; day 1 = 4; ofBank 0 0 = 5; ofBank 0 5 = 5; ofBank 0 8 = 0; central = -10; centralAnew = -10");
        Script.run("27 day: just as much as is missing is lent", bonds + "lend 0 10 9 0 = 0; day 1 = 4; ofBank 0 0 = 9; ofBank 0 5 = 9; ofBank 0 8 = 0");
        Script.run("27 day: 1 more is missing than is lent", bonds + "lend 0 10 10 0 = 0; day 1 = 4; ofBank 0 0 = 9; ofBank 0 5 = 9; ofBank 0 8 = 1");
        Script.run("27 day: 1 is missing", bonds + "lend 0 10 5 0 = 0; endow 0 4 = 4; day 1 = 4; ofBank 0 0 = 5; ofBank 0 5 = 1");
        Script.run("27 day: none is missing", bonds + "lend 0 10 5 0 = 0; endow 0 5 = 5; day 1 = 4; ofBank 0 0 = 5; ofBank 0 5 = 0; endow 0 1 = 6; day 1 = 4; ofBank 0 0 = 6; ofBank 0 5 = 0");
        Script.run("27 day: more is lent already than the bonds let, as they were sold", bonds + """
            window 0 9 = 9; buyBonds 0 5 = 5; lend 0 10 15 0 = 0; ofBank 0 0 = 14; day 1 = 4; ofBank 0 0 = 14; ofBank 0 5 = 9; ofBank 0 8 = 1
            rules 0 0 0 = 0; day 1 = 4; ofBank 0 0 = 14; ofBank 0 5 = 9; ofBank 0 8 = 0
            """);
        Script.run("27 day: bonds that are due are paid ahead of that", """
            open 10 0 = 1; endow 0 10 = 10; bid 0 100 10 = 1; auction 10 1 = 100; rules 0 0 100 = 0; lend 0 10 10 0 = 0; day 1 = 4
            ofBank 0 0 = 10; ofBank 0 5 = 0; ofBank 0 8 = 0
            """);
    }

    private static void runs() {
        String shortBank = "rules 0 0 100 = 0; endow 0 500 = 500\n";
        Script.run("27 day: households of a bank that is short draw all that is free, be it 1; firms do not", shortBank + """
            open 0 0 = 1; open 9 0 = 2; open 10 0 = 3; lend 0 0 1 0 = 0; lend 0 9 100 0 = 1; lend 0 10 400 0 = 2; day 1 = 4; ofBank 0 8 = 1
            ofHolder 0 3 = 1; ofHolder 0 1 = 0; ofHolder 9 3 = 100; ofHolder 9 1 = 0; ofHolder 10 1 = 400; ofBank 0 0 = 399
            """);
        Script.run("27 day: the same bank is not short, by 1", shortBank + """
            open 0 0 = 1; open 9 0 = 2; open 10 0 = 3; lend 0 9 100 0 = 0; lend 0 10 400 0 = 1; day 1 = 4; ofBank 0 8 = 0
            ofHolder 9 3 = 0; ofHolder 9 1 = 100
            """);
        Script.run("27 day: those that have nothing free draw nothing", shortBank + """
            open 0 0 = 1; open 1 1 = 1; limit 0 0 = 1000; lend 0 0 501 0 = 0; pay 0 1 501 = 0; day 1 = 4; ofBank 0 8 = 1
            ofHolder 0 1 = 501; ofHolder 0 3 = 0; ofBank 0 9 = 0
            """);
        Script.run("27 day: all that is free, more than one can draw by a call", "rules 0 0 0 = 0\n" + Script.counting(2, "endow 0 10000", 10000, 10000) + """
            open 0 0 = 1; open 1 0 = 2; lend 0 0 10000 0 = 0; lend 0 0 5000 0 = 1; lend 0 1 3 0 = 2; draw 1 1 = 1; day 1 = 4; ofHolder 0 3 = 15000; ofHolder 1 3 = 3
            """);
        Script.run("27 day: a bank that has just enough, and one that has 1 less and fails", """
            rules 0 0 100 = 0; endow 0 50 = 50; endow 1 49 = 49; open 0 0 = 1; open 10 0 = 2; open 2 1 = 1; open 11 1 = 2
            lend 0 0 50 0 = 0; lend 0 10 50 0 = 1; lend 1 2 50 0 = 2; lend 1 11 50 0 = 3; day 1 = 3
            ofHolder 0 3 = 50; ofBank 0 9 = 0; ofHolder 2 3 = 49; ofBank 1 9 = 1; ofHolder 2 0 = 0; ofHolder 11 0 = 0; ofHolder 2 1 = 1
            """);
        Script.run("27 day: those whose bank has failed in the run are at another one, and draw there if it is short", """
            rules 0 0 100 = 0; open 0 1 = 1; open 1 1 = 2; open 10 0 = 1; lend 1 0 50 0 = 0; lend 1 1 60 0 = 1; lend 0 10 5 0 = 2; day 1 = 3
            ofBank 1 9 = 1; ofHolder 0 0 = 0; ofHolder 0 1 = 50; ofHolder 0 3 = 0; ofHolder 1 3 = 60; ofHolder 1 1 = 0; ofHolder 1 0 = 0
            """);
    }

    private static void neighbours() {
        String four = FREE + "endow 0 1000 = 1000; open 3 0 = 1; open 4 0 = 2; open 5 0 = 3; open 6 0 = 4\n"
                + "lend 0 3 20 0 = 0; lend 0 4 20 0 = 1; lend 0 5 20 0 = 2; lend 0 6 20 0 = 3\n";
        Script.run("27 day: a neighbour with the number 1 less; one with 2 less is none", four + """
            draw 3 1 = 1; day 1 = 4; ofHolder 4 1 = 0; ofHolder 4 3 = 20
            # 4 has drawn in this day, when 5 is asked; so has 5, when 6 is
            ofHolder 5 1 = 0; ofHolder 6 1 = 0; ofHolder 3 1 = 19
            """);
        Script.run("27 day: a neighbour with the number 1 more; one with 2 more is none until the next day", four + """
            draw 6 1 = 1; day 1 = 4; ofHolder 5 1 = 0; ofHolder 4 1 = 20; ofHolder 3 1 = 20; ofHolder 6 1 = 0
            day 1 = 4; ofHolder 4 1 = 0; ofHolder 3 1 = 20; day 1 = 4; ofHolder 3 1 = 0
            """);
        String two = FREE + "endow 0 1000 = 1000; open 3 0 = 1; open 4 0 = 2; lend 0 4 20 0 = 0; draw 4 1 = 1\n";
        Script.run("27 day: who has drawn in the day ahead, and not two ahead", two + """
            day 1 = 4; lend 0 3 5 0 = 1; day 1 = 4; ofHolder 3 1 = 5; draw 4 1 = 1; day 1 = 4; ofHolder 3 1 = 0
            """);
        Script.run("27 day: a draw of the latest day, when the draw ahead of it was long ago", two + """
            day 5 = 4; lend 0 3 5 0 = 1; day 1 = 4; ofHolder 3 1 = 5; draw 4 1 = 1; day 2 = 4; ofHolder 3 1 = 0
            """);
        Script.run("27 day: from the same bank", FREE + """
            endow 0 100 = 100; endow 1 100 = 100; open 3 1 = 1; open 4 0 = 1; lend 0 4 20 0 = 0; lend 1 3 20 0 = 1; draw 4 1 = 1; day 1 = 4
            ofHolder 3 1 = 20; ofHolder 4 1 = 19
            """);
        Script.run("27 day: from the same bank, though the neighbour is at another one since", FREE + """
            endow 0 100 = 100; open 3 0 = 1; open 4 0 = 2; lend 0 3 20 0 = 0; lend 0 4 20 0 = 1; draw 4 20 = 20; close 4 = 0; open 4 1 = 1
            bring 4 20 = 20; draw 4 1 = 1; day 1 = 4; ofHolder 3 1 = 0; ofHolder 3 3 = 20; ofHolder 4 1 = 19
            """);
        Script.run("27 day: a neighbour that drew from a bank that has failed", FREE + """
            endow 1 100 = 100; open 3 1 = 1; open 4 1 = 2; lend 1 3 20 0 = 0; lend 1 4 20 0 = 1; draw 4 5 = 5; fail 1 = 35
            ofHolder 3 0 = 0; day 1 = 3; ofHolder 3 1 = 20; ofHolder 4 1 = 15
            """);
        Script.run("27 day: households 0 and 9 have one neighbour each; firm 10 is none", FREE + """
            endow 0 1000 = 1000; open 0 0 = 1; open 9 0 = 2; open 10 0 = 3; open 1 0 = 4; open 8 0 = 5; lend 0 0 20 0 = 0; lend 0 9 20 0 = 1
            lend 0 10 20 0 = 2; draw 10 1 = 1; draw 0 1 = 1; day 1 = 4; ofHolder 9 1 = 20; lend 0 8 1 0 = 3; draw 8 1 = 1; draw 9 1 = 1
            lend 0 1 1 0 = 4; draw 1 1 = 1; day 1 = 4; ofHolder 9 1 = 0; ofHolder 0 1 = 0
            """);
        Script.run("27 day: one that wanted notes and got none has not drawn", FREE + """
            open 0 0 = 1; open 1 0 = 2; lend 0 0 50 0 = 0; lend 0 1 50 0 = 1; draw 0 1 = 0; ofHolder 0 0 = 1; day 1 = 3; ofHolder 1 1 = 50
            """);
        Script.run("27 day: one that drew 1 has drawn", FREE + "endow 0 9 = 9; open 0 0 = 1; open 1 0 = 2; lend 0 0 1 0 = 0; lend 0 1 5 0 = 1; draw 0 1 = 1; day 1 = 4; ofHolder 1 3 = 5");
        Script.run("27 day: its own draw lets none draw", FREE + "endow 0 9 = 9; open 5 0 = 1; lend 0 5 5 0 = 0; draw 5 1 = 1; day 1 = 4; ofHolder 5 1 = 4");
    }

    private static void capital() {
        Script.run("27 day: a bank whose capital is 0 does not fail", FREE + "endow 0 100 = 100; open 10 0 = 1; open 11 1 = 1\n"
                + "lend 0 10 100 10 = 0; pay 10 11 100 = 0; day 3 = 4; ofLoan 0 2 = 0; ofBank 0 6 = 0; ofBank 0 9 = 0; ofBank 0 0 = 0");
        Script.run("27 day: a bank whose capital is -1 fails, and its accounts move", """
            rules 0 0 0 = 0; open 10 0 = 1; open 11 1 = 1; mint 12 5 = 5; open 12 0 = 2; bring 12 5 = 5; lend 0 10 100 10 = 0; endow 0 99 = 99
            pay 10 11 99 = 0; pay 10 12 1 = 1; day 2 = 4; ofBank 0 6 = 99; day 1 = 3; ofBank 0 9 = 1; ofHolder 12 0 = 1; ofHolder 12 1 = 6
            """);
        Script.run("27 day: a bank that has failed does not fail again", "fail 0 = 0; day 5 = 3; ofBank 0 6 = 0; fail 0 ! state; day 1 = 3");
    }

    private static void prices() {
        String shop = FREE + "open 0 0 = 1; open 10 0 = 2; open 11 1 = 1; lend 0 0 1000 0 = 0\n";
        Script.run("27 day: 5 goods: 1 more", shop + "buy 0 10 5 = 0; day 1 = 4; price 10 = 11");
        Script.run("27 day: 4 goods, and 1: the same", shop + "buy 0 10 4 = 0; day 1 = 4; price 10 = 10; buy 0 10 1 = 1; day 1 = 4; price 10 = 10");
        Script.run("27 day: 5 goods by several calls", shop + "buy 0 10 3 = 0; buy 0 10 2 = 1; day 1 = 4; price 10 = 11");
        Script.run("27 day: none: 1 less", shop + "day 1 = 4; price 10 = 9; price 15 = 9");
        Script.run("27 day: goods of earlier days do not count again", shop + "buy 0 10 3 = 0; day 1 = 4; buy 0 10 2 = 1; day 1 = 4; price 10 = 10; day 1 = 4; price 10 = 9");
        Script.run("27 day: whether they are paid or not", shop + "buy 0 11 5 = 0; day 1 = 4; payment 0 = 0; price 11 = 11; fail 1 = 0; payment 0 = 2; day 1 = 3; price 11 = 10");
        Script.run("27 day: not below 1", shop + "day 5 = 4; day 4 = 4; price 10 = 1; day 1 = 4; price 10 = 1; buy 0 10 5 = 0; ofHolder 10 1 = 5; day 1 = 4; price 10 = 2; day 2 = 4; price 10 = 1");
    }

    private static void expectations() {
        Script.run("27 day: a gap of 3 is none, one of 4 is 1, toward 0", "day 3 = 4; price 10 = 7; ofHolder 0 7 = 10; day 1 = 4; price 10 = 6; ofHolder 0 7 = 9; ofHolder 9 7 = 9");
        StringBuilder up = new StringBuilder(FREE + "open 0 0 = 1; lend 0 0 10000 0 = 0; lend 0 0 10000 0 = 1\n");
        for (int f = 10; f < 16; f++) up.append("open ").append(f).append(" 0 = ").append(f - 8).append('\n');
        for (int day = 0; day < 4; day++) {
            if (day == 3) up.append("ofHolder 0 7 = 10; price 10 = 13\n");
            for (int f = 10; f < 16; f++) up.append("buy 0 ").append(f).append(" 5 = ").append(day * 6 + f - 10).append('\n');
            up.append("day 1 = 4\n");
        }
        Script.run("27 day: a gap of 3 above, and one of 4", up + "price 10 = 14; price 15 = 14; ofHolder 0 7 = 11; ofHolder 9 7 = 11; ofHolder 10 7 = 0");
        Script.run("27 day: the mean is rounded down", FREE + """
            open 0 0 = 1; open 10 0 = 2; open 11 0 = 3; lend 0 0 90 0 = 0; buy 0 10 1 = 0; buy 0 11 1 = 1; day 1 = 4; buy 0 10 1 = 2
            day 1 = 4; buy 0 10 1 = 3; day 1 = 4; ofHolder 0 7 = 10; buy 0 10 1 = 4; day 1 = 4; price 10 = 10; price 11 = 7; price 12 = 6
            # 41 by 6 is 6, 4 below 10
            ofHolder 0 7 = 9
            """);
        Script.run("27 day: households without an account expect, too; firms do not", "day 5 = 4; ofHolder 7 7 = 8; ofHolder 10 7 = 0; ofHolder 15 7 = 0");
    }
}
