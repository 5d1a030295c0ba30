/** Promises 25 to 28: work, goods, days, and banks that fail. */
public final class DaysTest {
    public static void main(String[] args) {
        workAndGoods();
        daysGoBy();
        wages();
        interest();
        reserves();
        runs();
        prices();
        banksFail();
        Script.end();
    }

    private static void workAndGoods() {
        Script.run("25 hire", """
            hire 0 10 5 = 0; ofHolder 0 5 = 10; ofHolder 0 6 = 5; hire 0 15 1000 = 5; ofHolder 0 5 = 15; hire 0 15 1 = 1000
            hire 9 10 7 = 0; hire -1 10 1 ! index; hire 10 11 1 ! index; hire 0 9 1 ! index; hire 0 16 1 ! index
            hire 10 10 0 ! index; hire 0 10 0 ! argument; hire 0 10 1001 ! argument; ofHolder 0 5 = 15; ofHolder 0 6 = 1
            """);
        Script.run("26 buy", """
            rules 0 0 0 = 0; open 0 0 = 1; open 10 0 = 2; open 11 1 = 1; lend 0 0 300 0 = 0
            buy 0 10 3 = 0; payment 0 = 1; ofHolder 0 1 = 270; ofHolder 10 1 = 30; sales 0 false = 30
            buy 0 11 20 = 1; payment 1 = 0; ofHolder 0 2 = 70; sales 0 true = 30; buy 0 10 8 ! state
            buy 0 12 1 ! state; buy 1 10 1 ! state; buy 0 10 0 ! argument; buy 0 10 21 ! argument
            buy -1 10 1 ! index; buy 10 11 1 ! index; buy 0 9 1 ! index; buy 0 16 0 ! index
            buy 0 10 7 = 2; ofHolder 0 2 = 0; buy 0 10 1 ! state
            """);
    }

    private static void daysGoBy() {
        Script.run("27 day", """
            day 1 = 4; days = 1; day 5 = 4; days = 6; day 0 ! argument; day 6 ! argument; day -1 ! argument; days = 6
            fail 1 = 0; day 1 = 3; fail 0 = 0; fail 2 = 0; day 2 = 1; fail 3 = 0; day 1 = 0; days = 10
            """);
        Script.run("27 day: no more than 200", "day 5 = 4;".repeat(39) + """
            day 3 = 4; days = 198; day 3 ! state; day 5 ! state; days = 198; day 6 ! argument; day 2 = 4; days = 200
            day 1 ! state; day 0 ! argument; days = 200; sales 200 true = 0; sales 201 true ! index
            """);
    }

    private static void wages() {
        Script.run("27 day: wages, by the numbers of the households, as far as the firm has it free", """
            rules 0 0 0 = 0; open 0 0 = 1; open 1 0 = 2; open 2 1 = 1; open 10 0 = 3; endow 0 100 = 100
            lend 0 10 25 0 = 0; hire 0 10 10 = 0; hire 1 10 10 = 0; hire 2 10 6 = 0; hire 3 10 1 = 0; hire 4 11 1 = 0
            day 1 = 4
            ofHolder 0 1 = 10; ofHolder 1 1 = 10; ofHolder 2 1 = 0; ofHolder 10 1 = 5; payment 1 = 1; payment 2 ! index
            ofHolder 0 5 = 10; ofHolder 1 6 = 10; ofHolder 2 5 = -1; ofHolder 2 6 = 0; ofHolder 3 5 = -1
            ofHolder 4 5 = -1; hire 2 10 5 = 0; day 1 = 4; ofHolder 0 5 = -1; ofHolder 1 5 = -1
            # to another bank it waits, and is cleared on the same day
            payment 2 = 1; ofHolder 2 1 = 5; ofBank 1 0 = 5; ofHolder 10 1 = 0; ofHolder 2 5 = 10; sales 2 true = 0
            """);
        Script.run("27 day: what is blocked by a wage is not free for interest", """
            rules 0 0 0 = 0; open 0 1 = 1; open 10 0 = 1; lend 0 10 100 100 = 0; hire 0 10 95 = 0
            day 1 = 4; ofLoan 0 3 = 1; ofHolder 10 1 = 100; ofHolder 10 2 = 5; payment 0 = 0
            """);
    }

    private static void interest() {
        Script.run("27 day: interest ends as money", """
            rules 0 0 0 = 0; open 11 0 = 1; lend 0 11 1000 15 = 0; lend 0 11 99 10 = 1; money = 1099
            day 1 = 4; ofHolder 11 1 = 1084; money = 1084; ofBank 0 6 = 15; accountAnew 11 = 1084; ofLoan 0 2 = 1000
            central = 0; centralAnew = 0
            """);
        Script.run("27 day: overdue three times on end it is written off", """
            rules 0 0 0 = 0; open 10 0 = 1; open 11 0 = 2; endow 0 500 = 500; lend 0 10 100 100 = 0; pay 10 11 95 = 0
            day 2 = 4; ofLoan 0 3 = 2; ofHolder 10 1 = 5; pay 11 10 5 = 1; day 1 = 4; ofLoan 0 3 = 0; ofHolder 10 1 = 0
            day 2 = 4; ofLoan 0 3 = 2; ofLoan 0 2 = 100; day 1 = 4; ofLoan 0 3 = 3; ofLoan 0 2 = 0; ofBank 0 6 = 410
            pay 11 10 50 = 2; day 1 = 4; ofLoan 0 3 = 3; ofHolder 10 1 = 50; payBack 0 1 ! state; ofLoan 0 1 = 0
            """);
        Script.run("27 day: interest of 0 is paid, with or without an account", """
            rules 0 0 0 = 0; open 10 0 = 1; open 11 0 = 2; lend 0 10 100 10 = 0; pay 10 11 100 = 0; day 2 = 4
            ofLoan 0 3 = 2; pay 11 10 1 = 1; payBack 0 1 = 99; day 1 = 4; ofLoan 0 3 = 0; ofHolder 10 1 = 0
            close 10 = 0; day 1 = 4; ofLoan 0 3 = 0; ofLoan 0 2 = 99
            """);
        Script.run("27 day: a loan of which 1 is left has interest, too", """
            rules 0 0 0 = 0; open 10 0 = 1; open 11 0 = 2; lend 0 10 40 100 = 0; pay 10 11 40 = 0; day 2 = 4
            ofLoan 0 3 = 2; pay 11 10 39 = 1; payBack 0 39 = 1; day 1 = 4; ofLoan 0 3 = 0; ofLoan 0 2 = 1
            """);
        Script.run("27 day: interest is by 1000", """
            endow 0 10000 = 10000; open 10 0 = 1; lend 0 10 10000 100 = 0; lend 0 10 10000 1 = 1; day 1 = 4
            ofHolder 10 1 = 18990; bid 0 50 1000 = 1; bid 0 50 1000 = 2; auction 2000 50 = 50; window 0 1800 = 1800
            rules 100 0 0 = 0; ofBank 0 0 = 10800; lend 0 10 1 0 = 2; day 1 = 4; ofBank 0 0 = 10620; ofBank 0 5 = 1800
            windowBack 0 1773 = 27; rules 37 0 0 = 100; day 1 = 4; ofBank 0 0 = 8847; rules 38 0 0 = 37; day 1 = 4
            ofBank 0 0 = 8846; ofBank 0 5 = 27
            """);
        Script.run("27 day: interest to another bank moves reserves; if they lack, it is as if it was not free", """
            rules 0 0 0 = 0; open 10 0 = 1; open 11 0 = 2; lend 0 10 100 100 = 0; pay 10 11 100 = 0; close 10 = 0
            open 10 1 = 1; mint 10 50 = 50; bring 10 50 = 50; endow 1 15 = 15
            day 1 = 4; ofBank 1 0 = 5; ofBank 0 0 = 10; ofHolder 10 1 = 40; ofLoan 0 3 = 0; money = 140
            day 1 = 4; ofBank 1 0 = 5; ofBank 0 0 = 10; ofHolder 10 1 = 40; ofLoan 0 3 = 1
            """);
        Script.run("27 day: interest to the central bank, and what it writes off", """
            rules 0 0 0 = 0; open 10 0 = 1; lend 0 10 100 100 = 0; fail 0 = 100; ofHolder 10 0 = 1
            day 1 = 3; ofBank 1 0 = 90; ofHolder 10 1 = 90; central = 10; centralAnew = 10; draw 10 85 = 85; day 2 = 3
            ofLoan 0 3 = 2; central = 10; day 1 = 3; ofLoan 0 2 = 0; central = -90; centralAnew = -90
            """);
        Script.run("27 day: banks pay the central bank interest; what reserves have not is lent as well", """
            endow 0 100 = 100; bid 0 100 100 = 1; auction 100 50 = 100; window 0 90 = 90; endow 1 5 = 5
            rules 100 10 10 = 0; day 1 = 4; ofBank 0 0 = 81; ofBank 0 5 = 90; central = -96; centralAnew = -96
            open 10 0 = 1; open 11 1 = 1; mint 10 1 = 1; rules 55 0 0 = 100; lend 0 10 79 0 = 0; pay 10 11 79 = 0; clear = 1
            ofBank 0 0 = 2; day 1 = 4; ofBank 0 0 = 0; ofBank 0 5 = 92; central = -93; centralAnew = -93
            """);
    }

    private static void reserves() {
        Script.run("27 day: what is missing is lent, as far as the bonds go; firms stay", """
            endow 0 100 = 100; bid 0 100 50 = 1; auction 50 50 = 100; open 10 0 = 1; open 11 1 = 1; rules 0 0 0 = 0
            lend 0 10 200 0 = 0; pay 10 11 49 = 0; clear = 1; ofBank 0 0 = 1; rules 0 0 10 = 0
            day 1 = 4; ofBank 0 0 = 16; ofBank 0 5 = 15; ofBank 0 8 = 0        # 15.1 of 151
            rules 0 0 31 = 0; day 1 = 4; ofBank 0 0 = 46; ofBank 0 5 = 45; ofBank 0 8 = 1    # 46.81
            ofBank 0 6 = 100; central = -100; centralAnew = -100
            mint 10 1 = 1; bring 10 1 = 1; ofBank 0 8 = 1; rules 0 0 30 = 0; day 1 = 4; ofBank 0 8 = 0   # 45.6, notes count
            ofBank 0 5 = 45; ofBank 1 8 = 0
            """);
    }

    private static void runs() {
        Script.run("27 day: households draw where a neighbour has drawn, in this day or the one ahead of it", """
            rules 0 0 0 = 0; endow 0 1000 = 1000; endow 1 100 = 100; open 3 0 = 1; open 4 0 = 2; open 5 0 = 3
            open 7 0 = 4; open 9 0 = 5; open 10 0 = 6; open 8 1 = 1; open 6 1 = 2
            lend 0 3 20 0 = 0; lend 0 4 20 0 = 1; lend 0 5 20 0 = 2; lend 0 7 20 0 = 3; lend 0 9 20 0 = 4
            lend 0 10 20 0 = 5; lend 1 8 20 0 = 6; lend 1 6 20 0 = 7
            draw 10 1 = 1; draw 8 1 = 1; day 1 = 4
            # neither a firm nor a draw from another bank counts
            ofHolder 9 1 = 20; ofHolder 7 1 = 20; ofHolder 8 1 = 19; ofHolder 6 1 = 20
            draw 4 1 = 1; pay 5 8 8 = 0; limit 0 0 = 1000; day 1 = 4
            ofHolder 3 1 = 0; ofHolder 3 3 = 20; ofHolder 4 1 = 0; ofHolder 4 3 = 20
            ofHolder 5 1 = 8; ofHolder 5 2 = 0; ofHolder 5 3 = 12       # all that is free
            ofHolder 6 1 = 20; ofHolder 7 1 = 20; ofHolder 9 1 = 20; ofBank 0 0 = 947
            """);
        Script.run("27 day: a draw two days ahead counts no more", """
            rules 0 0 0 = 0; endow 0 1000 = 1000; open 3 0 = 1; open 4 0 = 2; lend 0 4 20 0 = 0; draw 4 1 = 1; day 1 = 4
            lend 0 3 20 0 = 1; day 1 = 4; ofHolder 3 1 = 20; ofHolder 4 1 = 19
            draw 3 1 = 1; day 1 = 4; ofHolder 4 1 = 0; ofHolder 3 1 = 19
            """);
        Script.run("27 day: households 0 and 1, and 8 and 9, are neighbours; 9 and 0 are not; be it 1 that is free", """
            rules 0 0 0 = 0; endow 0 100 = 100; open 0 0 = 1; open 1 0 = 2; open 8 0 = 3; open 9 0 = 4; lend 0 0 2 0 = 0
            lend 0 1 1 0 = 1; lend 0 8 2 0 = 2; lend 0 9 2 0 = 3; draw 0 1 = 1; day 1 = 4
            ofHolder 1 1 = 0; ofHolder 0 1 = 1; ofHolder 9 1 = 2; ofHolder 8 1 = 2; draw 8 1 = 1; day 1 = 4; ofHolder 9 1 = 0
            ofHolder 8 1 = 1; ofHolder 0 1 = 0
            """);
        Script.run("27 day: households of a short bank draw, and it fails when it has no more", """
            rules 0 0 50 = 0; open 0 1 = 1; open 2 1 = 2; open 4 1 = 3; open 10 1 = 4; open 9 0 = 1; endow 1 90 = 90
            rules 0 0 50 = 0; lend 1 0 60 0 = 0; lend 1 2 200 0 = 1; lend 1 4 150 0 = 2; lend 1 10 10 0 = 3
            day 1 = 3
            # 0 draws 60; 2 wants 200 and gets 30; of 420, 210 are to be paid out: sure are 100, 100, 10, and no more
            ofHolder 0 3 = 60; ofHolder 2 3 = 30; ofHolder 2 1 = 100; ofHolder 4 1 = 100; ofHolder 10 1 = 10
            ofHolder 4 3 = 0; ofHolder 4 0 = 0; ofBank 0 0 = 210; ofBank 1 8 = 0; ofBank 0 8 = 0; ofBank 1 9 = 1
            """);
        Script.run("27 day: who gets nothing has not drawn", """
            rules 0 0 100 = 0; open 0 0 = 1; open 1 0 = 2; lend 0 0 50 0 = 0; lend 0 1 50 0 = 1; fail 1 = 0; fail 2 = 0
            day 1 = 1; ofBank 0 9 = 1; ofHolder 0 3 = 0; ofHolder 0 1 = 50; ofHolder 1 1 = 50; ofHolder 1 0 = 3
            """);
        Script.run("27 day: a bank with a capital below 0 fails", """
            rules 0 0 0 = 0; open 10 0 = 1; open 11 1 = 1; lend 0 10 100 100 = 0; pay 10 11 100 = 0; endow 0 100 = 100
            clear = 1; endow 0 99 = 99; open 12 0 = 2; lend 0 12 50 0 = 1; day 2 = 4; ofBank 0 6 = 199
            fail 3 = 0
            day 1 = 3; ofLoan 0 2 = 0; ofBank 0 6 = 99; ofBank 0 9 = 0
            """);
        Script.run("27 day: a capital of 0 is none below 0", """
            rules 0 0 0 = 0; open 10 0 = 1; open 11 1 = 1; lend 0 10 100 10 = 0; endow 0 99 = 99; pay 10 11 99 = 0
            clear = 1; endow 0 1 = 1; draw 10 1 = 1; open 12 0 = 2; day 2 = 4; ofLoan 0 3 = 2; ofBank 0 6 = 100
            day 1 = 4; ofBank 0 6 = 0; ofBank 0 9 = 0
            """);
        Script.run("27 day: one below 0", """
            rules 0 0 0 = 0; open 10 0 = 1; open 11 1 = 1; lend 0 10 100 10 = 0; endow 0 99 = 99; pay 10 11 99 = 0
            clear = 1; mint 12 5 = 5; open 12 0 = 2; bring 12 5 = 5; pay 10 12 1 = 1; day 2 = 4; ofLoan 0 3 = 2
            ofBank 0 6 = 99; day 1 = 3; ofBank 0 9 = 1; ofHolder 12 1 = 6; ofHolder 12 0 = 1; ofHolder 10 0 = 1
            ofLoan 0 1 = 4; ofLoan 0 3 = 3
            """);
    }

    private static void prices() {
        Script.run("27 day: prices, by the goods bought since, whether they are paid or not", """
            rules 0 0 0 = 0; open 0 0 = 1; open 10 0 = 2; open 11 1 = 1; open 12 0 = 3; endow 0 1 = 1; lend 0 0 1000 0 = 0
            buy 0 10 4 = 0; buy 0 11 3 = 1; buy 0 11 2 = 2; buy 0 12 20 = 3
            day 1 = 4; payment 1 = 0; price 10 = 10; price 11 = 11; price 12 = 11; price 13 = 9
            buy 0 12 1 = 4; day 1 = 4; price 10 = 9; price 11 = 10; price 12 = 11; price 13 = 8; ofHolder 0 7 = 10
            day 5 = 4; price 13 = 3; price 10 = 4; day 5 = 4; price 13 = 1; price 10 = 1; price 12 = 1; price 15 = 1
            """);
        Script.run("27 day: expectations go a quarter of the way to the mean, toward 0", """
            day 3 = 4; price 10 = 7; ofHolder 0 7 = 10; day 1 = 4; price 15 = 6; ofHolder 0 7 = 9; ofHolder 9 7 = 9
            day 1 = 4; ofHolder 3 7 = 8; day 1 = 4; ofHolder 3 7 = 7; day 1 = 4; ofHolder 3 7 = 6; day 1 = 4; ofHolder 3 7 = 5
            day 5 = 4; ofHolder 3 7 = 4; ofHolder 12 7 = 0
            """);
        Script.run("27 day: the mean is rounded down", """
            rules 0 0 0 = 0; open 0 0 = 1; open 10 0 = 2; open 11 0 = 3; lend 0 0 90 0 = 0; buy 0 10 1 = 0; buy 0 11 1 = 1
            day 1 = 4; buy 0 10 1 = 2; day 1 = 4; buy 0 10 1 = 3; day 1 = 4; ofHolder 0 7 = 10; buy 0 10 1 = 4
            day 1 = 4; price 10 = 10; price 11 = 7; price 12 = 6; ofHolder 0 7 = 9       # 41 by 6
            """);
    }

    private static void banksFail() {
        Script.run("28 fail: all that there is to be paid out, what was lent first", """
            rules 0 0 0 = 0; open 0 2 = 1; open 1 2 = 2; open 10 2 = 3; open 3 2 = 4; open 9 1 = 1; endow 2 100 = 100
            bid 2 100 33 = 1; auction 33 9 = 100; bid 2 60 5 = 1; window 2 20 = 20
            lend 2 0 250 0 = 0; lend 2 1 190 0 = 1; lend 2 10 71 0 = 2; mint 3 10 = 10; bring 3 10 = 10
            # 87 reserves, 10 notes, 29 of 33 bonds, 255 of 511 loans, 20 lent: 361; sure are 281; 80 for 150 and 90
            pay 0 9 5 = 0; pay 9 0 1 ! state; fail 2 = 361
            ofHolder 0 1 = 150; ofHolder 1 1 = 130; ofHolder 10 1 = 71; ofHolder 3 1 = 10; ofHolder 0 2 = 150
            payment 0 = 2; ofHolder 0 0 = 0; ofHolder 3 0 = 0; ofBank 0 0 = 361; ofBank 0 6 = 0; bid 1 50 1 = 1
            ofBank 2 0 = 0; ofBank 2 1 = 0; ofBank 2 2 = 0; ofBank 2 3 = 0; ofBank 2 4 = 0; ofBank 2 5 = 0
            ofBank 2 6 = 0; ofBank 2 7 = 0; ofBank 2 8 = 0; ofBank 2 9 = 1
            ofLoan 0 1 = 4; ofLoan 2 1 = 4; owed = 33; central = 150; centralAnew = 150; money = 361
            fail 2 ! state; fail -1 ! index; fail 4 ! index; accountAnew 1 = 130; fail 0 = 361; ofHolder 0 0 = 1
            """);
        Script.run("28 fail: 90 percent of many bonds, half of loans", """
            rules 0 0 0 = 0; endow 0 1000 = 1000; bid 0 100 1000 = 1; auction 1000 50 = 100; open 0 0 = 1; open 1 1 = 1
            lend 0 0 3000 0 = 0; treasury = 1000; spend 1 999 = 1; fail 0 = 2400; ofHolder 0 1 = 2400
            """);
        Script.run("28 fail: nobody gets more than was in the account", """
            open 0 0 = 1; open 1 0 = 2; endow 0 1000 = 1000; lend 0 0 150 0 = 0; lend 0 1 100 0 = 1; fail 0 = 250
            ofHolder 0 1 = 150; ofHolder 1 1 = 100; ofBank 1 0 = 250; ofHolder 1 0 = 1; central = 0; centralAnew = 0
            """);
        Script.run("28 fail: parts are rounded down; what was lent may take all", """
            rules 0 0 0 = 0; endow 0 100 = 100; bid 0 50 200 = 1; auction 200 9 = 50; window 0 180 = 180
            open 0 0 = 1; open 1 0 = 2; open 2 0 = 3; open 10 1 = 1; lend 0 0 201 0 = 0; lend 0 1 201 0 = 1
            lend 0 2 201 0 = 2; lend 0 2 180 0 = 3; pay 2 10 180 = 0; clear = 1; ofBank 0 0 = 0
            # 180 of the bonds and 391 of the loans less 180; 300 are sure, 91 are for 101, 101 and 101
            fail 0 = 390; ofHolder 0 1 = 130; ofHolder 1 1 = 130; ofHolder 2 1 = 130; ofHolder 10 1 = 180
            central = 313; centralAnew = 313
            """);
        Script.run("28 fail: payments to its accounts are taken back, too", """
            rules 0 0 0 = 0; open 0 0 = 1; open 1 1 = 1; open 2 2 = 1; lend 0 0 50 0 = 0; lend 2 2 50 0 = 1
            pay 0 1 10 = 0; pay 0 2 20 = 1; pay 2 1 5 = 2; ofHolder 0 2 = 20; fail 1 = 0
            payment 0 = 2; payment 1 = 0; payment 2 = 2; ofHolder 0 2 = 30; ofHolder 2 2 = 50; ofHolder 1 0 = 0
            ofHolder 1 1 = 0; ofHolder 0 1 = 50; pay 0 1 5 = 3; payment 3 = 1
            """);
        Script.run("28 fail: without another bank the holders get notes", """
            fail 0 = 0; fail 1 = 0; fail 2 = 0; rules 0 0 0 = 0; open 0 3 = 1; open 10 3 = 2; lend 3 0 120 0 = 0
            mint 0 4 = 4; forge 0 4 = 8; fail 3 = 100; ofHolder 0 0 = -1; ofHolder 0 1 = 0; ofHolder 0 3 = 108
            ofHolder 0 4 = 4; ofHolder 10 0 = -1; accountAnew 0 = 0; money = 104; central = 16; centralAnew = 16
            open 0 3 ! state; draw 0 1 ! state; day 1 = 0
            """);
    }
}
