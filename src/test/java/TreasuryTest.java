/** Promises 19 to 24: bonds by auction, levies, spending, foreign money. */
public final class TreasuryTest {
    public static void main(String[] args) {
        Script.run("19 bid", """
            bid 0 50 1 = 1; bid 3 100 1000 = 2
            bid 0 49 1 ! argument; bid 0 101 1 ! argument; bid 0 50 0 ! argument; bid 0 50 1001 ! argument
            bid -1 50 1 ! index; bid 4 50 1 ! index; bid 4 49 0 ! index
            bid 0 50 1 = 3; bid 0 50 1 = 4; bid 1 50 1 = 5; bid 0 50 1 = 6; bid 0 50 1 = 7; bid 1 50 1 = 8
            bid 0 50 1 = 9; bid 0 50 1 = 10; bid 0 50 1 = 11; bid 2 50 1 = 12; bid 2 50 1 ! state; bid 2 49 1 ! argument
            fail 0 = 0; bid 2 50 1 = 5; bid 0 50 1 ! state     # those of bank 0 are gone
            auction 1 1 = -1; bid 1 50 1 = 1
            """);
        Script.run("20 auction: by falling prices, then by when they were told; the last one in part", """
            endow 0 1000 = 1000; endow 1 1000 = 1000; endow 2 1000 = 1000
            bid 0 90 10 = 1; bid 1 95 10 = 2; bid 2 90 10 = 3; bid 1 80 10 = 4; bid 0 99 10 = 5
            auction 35 3 = 90
            ofBank 0 2 = 20; ofBank 1 2 = 10; ofBank 2 2 = 5; owed = 35
            ofBank 0 0 = 982; ofBank 1 0 = 991; ofBank 2 0 = 995; treasury = 32   # 9, 9, 9, and 4.5 rounded up
            central = -3000; centralAnew = -3000; ofBank 2 6 = 1000; ofBank 0 6 = 1002
            bid 0 50 1 = 1
            """);
        Script.run("20 auction: what is not left over is not asked for", """
            endow 0 100 = 100; endow 1 100 = 100; bid 0 80 10 = 1; bid 1 70 10 = 2
            auction 10 1 = 80; ofBank 1 2 = 0; ofBank 0 0 = 92; treasury = 8
            """);
        Script.run("20 auction: who has not the reserves at its own prices is passed over", """
            endow 0 19 = 19; endow 1 3 = 3
            bid 0 95 10 = 1; bid 0 91 10 = 2; bid 0 90 10 = 3; bid 1 60 5 = 4; bid 1 60 1 = 5
            auction 100 1 = 60                   # 10, not 10 more, but 9 more; 3; not 1 more
            ofBank 0 2 = 20; ofBank 1 2 = 5; ofBank 0 0 = 7; ofBank 1 0 = 0; treasury = 15; owed = 25
            """);
        Script.run("20 auction: the reserves are for what it would get, not for what it bids", """
            endow 0 5 = 5; bid 0 100 1000 = 1; auction 6 1 = -1; owed = 0; treasury = 0
            bid 0 100 1000 = 1; auction 5 1 = 100; owed = 5; treasury = 5; ofBank 0 0 = 0
            """);
        Script.run("20 auction: costs are rounded up, be it from a hundredth", """
            endow 0 2 = 2; bid 0 67 3 = 1; auction 3 1 = -1; endow 0 1 = 3; bid 0 67 3 = 1; auction 3 1 = 67; treasury = 3
            """);
        Script.run("20 auction: the last one may get 1", """
            endow 0 100 = 100; endow 1 1 = 1; bid 0 90 10 = 1; bid 1 60 10 = 2; auction 11 1 = 60; ofBank 1 2 = 1
            ofBank 1 0 = 0; treasury = 7
            """);
        Script.run("20 auction: nothing of one comes into the next one", """
            endow 0 10 = 10; endow 1 10 = 10; bid 0 60 10 = 1; bid 1 60 10 = 2; auction 20 9 = 60; treasury = 12
            bid 0 50 8 = 1; bid 1 50 9 = 2; auction 20 9 = 50; ofBank 0 2 = 18; ofBank 1 2 = 10; treasury = 16
            bid 2 50 5 = 1; bid 1 50 8 = 2; auction 20 9 = 50; ofBank 2 2 = 0; ofBank 1 2 = 18; treasury = 20
            """);
        Script.run("20 auction: the bids of other banks stay as they were when one fails", """
            endow 1 100 = 100; endow 2 100 = 100; bid 0 99 9 = 1; bid 1 70 7 = 2; bid 0 98 8 = 3; bid 2 60 6 = 4; fail 0 = 0
            bid 2 80 1 = 3; auction 13 1 = 60; ofBank 2 2 = 6; ofBank 1 2 = 7; treasury = 9
            bid 2 75 4 = 1; bid 1 65 3 = 2; bid 3 99 2 = 3; fail 3 = 0; auction 7 1 = 65; ofBank 2 2 = 10; ofBank 1 2 = 10
            """);
        Script.run("20 auction: the latest of them has bonds of its own", "auction 9 9 = -1;".repeat(19) + """
            endow 3 100 = 100; bid 3 80 10 = 1; auction 10 2 = 80; ofBank 3 2 = 10; owed = 10; buyBonds 3 6 = 4; owed = 10
            auction 1 1 ! state; treasury = 8; day 1 = 4; owed = 10; day 1 = 4; owed = 2; ofBank 3 2 = 2; ofBank 3 0 = 100
            """);
        Script.run("20 auction: wrong", """
            auction 0 1 ! argument; auction 10001 1 ! argument; auction 1 0 ! argument; auction 1 51 ! argument
            bid 0 50 1 = 1; auction 10000 50 = -1; bid 0 50 1 = 1
            """);
        Script.run("20 auction: 20 and no more, sold or not", "auction 1 1 = -1;".repeat(20)
                + "auction 1 1 ! state; auction 0 1 ! argument; bid 0 50 1 = 1; auction 1 1 ! state; bid 0 50 1 = 2");
        Script.run("20 auction: due so many days later, of earlier auctions first, to the central bank first", """
            endow 0 100 = 100; endow 1 100 = 100; open 0 0 = 1; rules 0 0 0 = 0
            bid 1 50 10 = 1; bid 0 50 10 = 2; auction 20 2 = 50; bid 0 50 10 = 1; auction 10 1 = 50
            treasury = 15; spend 0 4 = 11; buyBonds 1 3 = 7; owed = 30
            day 1 = 4; owed = 20; treasury = 1; ofBank 0 2 = 10; ofBank 1 2 = 7
            spend 0 1 = 0; day 1 = 4; owed = 20; ofHolder 0 1 = 5
            # 5 come back by a levy: 3 go to the central bank, 2 to bank 0
            levy 0 100 = 5; day 1 = 4; owed = 15; ofBank 0 2 = 8; ofBank 1 2 = 7; treasury = 0
            # 12 of new bonds, which are due the next day, too: those of earlier auctions are first
            bid 2 50 24 = 1; endow 2 12 = 12; auction 24 1 = 50; treasury = 12
            day 1 = 4; owed = 27; ofBank 0 2 = 0; ofBank 1 2 = 3; ofBank 2 2 = 24; central = -212; centralAnew = -212
            """);
        Script.run("21 levy", """
            rules 0 0 0 = 0; open 0 0 = 1; open 1 1 = 1; lend 0 0 110 0 = 0; pay 0 1 11 = 0
            levy 0 1 = 0; levy 0 50 ! state; endow 0 48 = 48; levy 0 50 ! state; endow 0 1 = 49; levy 0 50 = 49
            treasury = 49; ofHolder 0 1 = 61; ofHolder 0 2 = 50; ofBank 0 0 = 0; accountAnew 0 = 61
            central = -49; centralAnew = -49; money = 61; levy 0 1 = 0; levy 0 2 ! state; endow 0 60 = 60
            levy 0 100 = 50; ofHolder 0 2 = 0; ofHolder 0 1 = 11; levy 0 100 = 0; treasury = 99
            """);
        Script.run("21 levy: wrong", """
            levy 0 10 ! state; open 0 0 = 1; levy 0 100 = 0; levy 0 0 ! argument; levy 0 101 ! argument
            levy -1 1 ! index; levy 16 1 ! index; levy 16 0 ! index; levy 15 1 ! state; levy 15 0 ! argument
            """);
        Script.run("22 spend", """
            endow 0 100 = 100; bid 0 100 60 = 1; auction 60 9 = 100; open 0 2 = 1; open 14 0 = 1
            spend 0 25 = 35; ofHolder 0 1 = 25; ofBank 2 0 = 25; accountAnew 0 = 25; money = 25; spend 14 5 = 30
            ofBank 0 0 = 45; spend 0 31 ! state; spend 0 30 = 0; spend 0 1 ! state
            spend 1 1 ! state; spend 0 0 ! argument; spend 0 10001 ! argument; spend -1 1 ! index; spend 16 0 ! index
            central = -100; centralAnew = -100
            """);
        Script.run("23 exchange", """
            exchange 10 = 100; exchange 1000 = 10; exchange 9 ! argument; exchange 1001 ! argument; exchange 50 = 1000
            """);
        Script.run("24 abroad: sells", """
            open 10 1 = 1; abroad 10 40 true = 40; ofHolder 10 1 = 40; ofBank 1 0 = 40; foreign = 40; accountAnew 10 = 40
            central = 0; centralAnew = 0; money = 40; exchange 33 = 100; abroad 10 5 true = 1; foreign = 45
            abroad 10 1 true = 0; foreign = 46; exchange 1000 = 33; abroad 10 1000 true = 10000; central = 0
            """);
        Script.run("24 abroad: buys", """
            open 15 0 = 1; open 14 1 = 1; abroad 15 1 false ! state; abroad 15 10 true = 10
            pay 15 14 5 = 0; abroad 15 6 false ! state; abroad 15 5 false = 5; foreign = 5; ofHolder 15 1 = 5
            ofBank 0 0 = 5; clear = 1; mint 14 50 = 50; bring 14 50 = 50; exchange 200 = 100
            abroad 14 3 false ! state            # 6, and the bank has reserves of 5
            abroad 14 2 false = 4; ofBank 1 0 = 1; ofHolder 14 1 = 51; foreign = 3; central = -50; centralAnew = -50
            endow 1 100 = 101; abroad 14 4 false ! state; abroad 14 3 false = 6; foreign = 0; abroad 14 1 false ! state
            exchange 10 = 200; abroad 14 1 true = 0; foreign = 1; abroad 14 1 false = 0; foreign = 0
            exchange 100 = 10; abroad 14 9 true = 9; pay 14 15 95 ! state; pay 14 15 45 = 1; limit 1 999 = 1000; clear = 1
            ofBank 1 0 = 59; abroad 14 9 false = 9; foreign = 0; ofBank 1 0 = 50; ofHolder 14 1 = 0
            abroad 15 50 true = 50; abroad 15 50 false = 50; ofBank 0 0 = 45; ofHolder 15 1 = 45
            open 11 3 = 1; abroad 11 5 true = 5; abroad 11 5 false = 5; ofBank 3 0 = 0; ofHolder 11 1 = 0
            """);
        Script.run("24 abroad: wrong", """
            abroad 9 1 true ! index; abroad 16 1 true ! index; abroad -1 1 false ! index; abroad 9 0 true ! index
            abroad 10 0 true ! argument; abroad 10 1001 true ! argument; abroad 10 1 true ! state
            abroad 10 0 false ! argument; foreign = 0
            """);
        Script.end();
    }
}
