/** Promises 12 to 18: loans, and what the central bank does with banks. */
public final class LoansTest {
    public static void main(String[] args) {
        Script.run("12 endow", """
            endow 0 1 = 1; endow 0 10000 = 10001; endow 3 7 = 7; ofBank 0 0 = 10001; ofBank 0 6 = 10001
            central = -10008; centralAnew = -10008; money = 0
            endow -1 1 ! index; endow 4 1 ! index; endow 4 0 ! index; endow 0 0 ! argument; endow 0 10001 ! argument
            fail 0 = 0; endow 0 1 ! state; endow 0 0 ! argument; ofBank 0 0 = 0; central = -7; centralAnew = -7
            """);
        Script.run("13 lend: makes money, as far as the capital lets it", """
            endow 1 10 = 10; open 5 1 = 1
            lend 1 5 110 0 ! state               # 10 percent are 11
            lend 1 5 109 0 = 0                   # 10.9 are 10
            lend 1 5 1 0 ! state; money = 109; ofHolder 5 1 = 109; ofHolder 5 2 = 109; accountAnew 5 = 109
            ofBank 1 3 = 109; ofBank 1 4 = 109; ofBank 1 6 = 10; ofBank 1 0 = 10; central = -10
            ofLoan 0 0 = 5; ofLoan 0 1 = 1; ofLoan 0 2 = 109; ofLoan 0 3 = 0
            rules 0 0 0 = 0; lend 1 5 10000 100 = 1; rules 0 100 0 = 0; lend 1 5 1 0 ! state
            endow 1 10000 = 10010; rules 0 99 0 = 0; lend 1 5 1 0 = 2; lend 1 5 1 0 = 3; lend 1 5 9 0 ! state
            """);
        Script.run("13 lend: wrong", """
            rules 0 0 0 = 0; lend 0 0 1 0 ! state; open 0 1 = 1; lend 0 0 1 0 ! state
            lend 1 0 0 0 ! argument; lend 1 0 10001 0 ! argument; lend 1 0 1 -1 ! argument; lend 1 0 1 101 ! argument
            lend -1 0 1 0 ! index; lend 4 0 0 0 ! index; lend 1 -1 1 0 ! index; lend 1 16 1 -1 ! index
            ofLoan 0 0 ! index; lend 1 0 1 100 = 0; ofLoan 0 0 = 0; ofLoan 1 0 ! index
            """);
        twentyLoans();
        Script.run("14 payBack: within the bank", """
            rules 0 0 0 = 0; open 0 0 = 1; lend 0 0 100 0 = 0
            payBack 0 30 = 70; ofHolder 0 1 = 70; ofBank 0 3 = 70; ofBank 0 0 = 0; money = 70; accountAnew 0 = 70
            payBack 0 71 ! state; payBack 0 0 ! argument; payBack 0 10001 ! argument
            payBack 1 1 ! index; payBack -1 1 ! index; payBack 1 0 ! index
            open 1 1 = 1; pay 0 1 60 = 0; payBack 0 11 ! state; payBack 0 10 = 60; payBack 0 1 ! state
            """);
        Script.run("14 payBack: from another bank reserves go along", """
            rules 0 0 0 = 0; open 0 0 = 1; open 1 0 = 2; lend 0 0 50 0 = 0; pay 0 1 50 = 0; close 0 = 0
            payBack 0 1 ! state; open 0 1 = 1; mint 0 80 = 80; bring 0 80 = 80
            payBack 0 20 ! state; endow 1 20 = 20; payBack 0 21 ! state; payBack 0 20 = 30
            ofBank 1 0 = 0; ofBank 0 0 = 20; ofHolder 0 1 = 60; ofBank 1 1 = 80; payBack 0 1 ! state
            central = -100; centralAnew = -100; money = 110
            """);
        Script.run("14 payBack: to the central bank", """
            rules 0 0 0 = 0; open 0 0 = 1; lend 0 0 100 0 = 0; fail 0 = 100; ofLoan 0 1 = 4; ofHolder 0 0 = 1
            ofBank 1 0 = 100; ofBank 1 3 = 0; central = 0; payBack 0 40 = 60; ofBank 1 0 = 60; ofHolder 0 1 = 60
            central = 0; centralAnew = 0; payBack 0 60 = 0; ofBank 1 0 = 0; payBack 0 1 ! state; ofLoan 0 2 = 0
            """);
        Script.run("15 window: at most 90 percent of its bonds", """
            endow 0 500 = 500; window 0 1 ! state; bid 0 100 101 = 1; auction 101 9 = 100
            window 0 91 ! state; window 0 90 = 90; ofBank 0 0 = 489; ofBank 0 5 = 90; ofBank 0 6 = 500
            window 0 1 ! state; windowBack 0 10 = 80; window 0 11 ! state; window 0 10 = 90
            central = -500; centralAnew = -500
            window 0 0 ! argument; window 0 10001 ! argument; window -1 1 ! index; window 4 0 ! index
            fail 0 = 0; window 0 1 ! state; ofBank 0 5 = 0; fail 2 = 0; window 2 1 ! state
            """);
        Script.run("16 windowBack", """
            endow 0 200 = 200; bid 0 50 200 = 1; auction 200 9 = 50; window 0 180 = 180; ofBank 0 0 = 280
            windowBack 0 181 ! state; windowBack 0 0 ! argument; windowBack 0 10001 ! argument
            windowBack -1 1 ! index; windowBack 4 1 ! index; windowBack 4 0 ! index; windowBack 1 1 ! state
            open 0 1 = 1; open 1 0 = 1; rules 0 0 0 = 0; lend 0 1 200 0 = 0; pay 1 0 200 = 0; clear = 1
            ofBank 0 0 = 80; windowBack 0 81 ! state; windowBack 0 80 = 100; ofBank 0 0 = 0; windowBack 0 1 ! state
            central = -200; centralAnew = -200; endow 0 100 = 100; windowBack 0 100 = 0; windowBack 0 1 ! state
            """);
        Script.run("17 rules", """
            rules 1 2 3 = 0; rules 100 100 100 = 1; rules 0 0 0 = 100; rules 7 10 10 = 0
            rules -1 0 0 ! argument; rules 101 0 0 ! argument; rules 0 -1 0 ! argument; rules 0 101 0 ! argument
            rules 0 0 -1 ! argument; rules 0 0 101 ! argument; rules 0 0 0 = 7
            """);
        Script.run("17 rules: each of them rules what it says", """
            rules 0 0 33 = 0; open 10 0 = 1; lend 0 10 10 100 = 0; endow 0 3 = 3
            day 1 = 4; ofBank 0 8 = 0; ofHolder 10 1 = 9         # 2.97 of 9 are 3
            mint 10 1 = 1; bring 10 1 = 1; draw 10 1 = 1; rules 0 0 34 = 0; day 1 = 4; ofBank 0 8 = 0
            rules 0 0 38 = 0; day 1 = 4; ofHolder 10 1 = 7; ofBank 0 8 = 0; rules 0 0 51 = 0
            day 1 = 4; ofHolder 10 1 = 6; ofBank 0 8 = 1; endow 0 1 = 4; ofBank 0 8 = 1; day 1 = 4; ofBank 0 8 = 0
            """);
        Script.run("17 rules: those at first", """
            endow 0 10 = 10; open 10 0 = 1; open 11 1 = 1; lend 0 10 101 0 = 0; payBack 0 1 = 100; day 1 = 4; ofBank 0 8 = 0
            pay 10 11 1 = 0; clear = 1; ofBank 0 0 = 9; day 1 = 4; ofBank 0 8 = 1          # 9.9 of 99
            """);
        Script.run("18 buyBonds: those of earlier auctions first", """
            endow 2 1000 = 1000; bid 2 100 30 = 1; auction 30 5 = 100; bid 2 100 20 = 1; auction 20 1 = 100
            buyBonds 2 35 = 15; ofBank 2 0 = 985; owed = 50; central = -1000; centralAnew = -1000
            # of the later auction, due first, the central bank has 5: the treasury, with 50, pays them first
            day 1 = 4; owed = 30; treasury = 30; ofBank 2 2 = 0; ofBank 2 0 = 1000
            day 4 = 4; owed = 0; treasury = 0; ofBank 2 0 = 1000; central = -1000; centralAnew = -1000
            """);
        Script.run("18 buyBonds: wrong", """
            buyBonds 0 1 ! state; endow 0 100 = 100; bid 0 50 10 = 1; auction 5 5 = 50; buyBonds 0 6 ! state
            buyBonds 0 0 ! argument; buyBonds 0 10001 ! argument; buyBonds -1 1 ! index; buyBonds 4 0 ! index
            buyBonds 0 5 = 0; buyBonds 0 1 ! state; ofBank 0 0 = 102
            """);
        Script.end();
    }

    private static void twentyLoans() {
        StringBuilder rows = new StringBuilder("rules 0 0 0 = 0; open 3 2 = 1\n");
        for (int i = 0; i < 20; i++) rows.append("lend 2 3 1 0 = ").append(i).append('\n');
        rows.append("lend 2 3 1 0 ! state; payBack 0 1 = 0; lend 2 3 1 0 ! state; ofLoan 19 2 = 1; ofLoan 20 2 ! index");
        Script.run("13 lend: 20 and no more", rows.toString());
    }
}
