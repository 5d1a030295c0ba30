/** Promises 19 to 24: each sentence of the document that names an edge has rows of its own; the title tells it. */
public final class EdgesOfTreasuryTest {
    public static void main(String[] args) {
        bids();
        auctions();
        takesBids();
        reservesForBids();
        bondsAreDue();
        levies();
        spends();
        exchanges();
        sellsAbroad();
        buysAbroad();
        Script.end();
    }

    private static void bids() {
        Script.run("19 bid: price: 50 to 100", "bid 0 50 1 = 1; bid 0 100 1 = 2; bid 0 51 1 = 3; bid 0 99 1 = 4\n"
                + Script.beyond("bid 0 @ 1", 50, 100, "argument") + "bid 0 75 1 = 5");
        Script.run("19 bid: number: 1 to 1000", "bid 0 50 1 = 1; bid 0 50 1000 = 2; bid 0 50 2 = 3; bid 0 50 999 = 4\n"
                + Script.beyond("bid 0 50 @", 1, 1000, "argument") + "bid 0 50 500 = 5");
        Script.run("19 bid: there is no such bank", Script.beyond("bid @ 50 1", 0, 3, "index") + "bid 0 50 1 = 1; bid 3 50 1 = 2");
        Script.run("19 bid: the bank has failed", "fail 1 = 0; bid 1 50 1 ! state; bid 0 50 1 = 1; bid 2 50 1 = 2");
        Script.run("19 bid: there are 12", Script.counting(12, "bid 0 50 1", 1, 1) + "bid 0 50 1 ! state; bid 3 100 1000 ! state\n"
                + "auction 1 1 = -1\n" + Script.counting(12, "bid 0 50 1", 1, 1) + "bid 1 50 1 ! state");
        Script.run("19 bid: there are 12, until a bank fails", Script.counting(11, "bid 0 50 1", 1, 1) + "bid 1 50 1 = 12; bid 2 50 1 ! state\n"
                + "fail 1 = 0; bid 2 50 1 = 12; bid 2 50 1 ! state; fail 0 = 0; bid 2 50 1 = 2");
        Script.run("19 bid: of 12 the latest is one, too", "endow 0 9 = 9\n" + Script.counting(11, "bid 1 50 1", 1, 1)
                + "bid 0 100 9 = 12; auction 9 1 = 100; ofBank 0 2 = 9");
        Script.run("19 bid: the first one named is thrown", """
            bid 4 49 0 ! index; bid -1 101 1 ! index; bid 0 49 1001 ! argument; fail 0 = 0; bid 0 49 1 ! argument; bid 0 50 0 ! argument
            """);
    }

    private static void auctions() {
        Script.run("20 auction: number: 1 to 10000", Script.beyond("auction @ 1", 1, 10000, "argument")
                + "auction 1 1 = -1; auction 10000 1 = -1; auction 9999 1 = -1");
        Script.run("20 auction: days: 1 to 50", Script.beyond("auction 1 @", 1, 50, "argument")
                + "auction 1 1 = -1; auction 1 50 = -1; auction 1 49 = -1");
        Script.run("20 auction: 10000 are sold", "endow 0 10000 = 10000\n" + Script.counting(12, "bid 0 90 1000", 1, 1)
                + "auction 10000 1 = 90; owed = 10000; ofBank 0 2 = 10000; ofBank 0 0 = 1000; treasury = 9000");
        Script.run("20 auction: 1 is sold", "endow 0 1 = 1; bid 0 50 1 = 1; auction 1 1 = 50; owed = 1; treasury = 1; ofBank 0 0 = 0");
        Script.run("20 auction: NONE if none are sold: there are no bids", "auction 5 1 = -1; owed = 0; treasury = 0");
        Script.run("20 auction: NONE if none are sold: no bank has the reserves", """
            bid 0 50 1 = 1; bid 1 100 1000 = 2; endow 1 999 = 999; auction 1000 1 = -1; owed = 0; treasury = 0; ofBank 1 0 = 999
            """);
        Script.run("20 auction: all bids are gone then, be they taken or not", """
            endow 0 50 = 50; bid 0 60 5 = 1; bid 0 55 5 = 2; bid 1 60 5 = 3; auction 5 1 = 60; auction 5 1 = -1; ofBank 0 2 = 5
            bid 0 50 1 = 1
            """);
        String nineteen = Script.counting(18, "auction 1 1", -1, 0) + "endow 0 9 = 9; bid 0 100 1 = 1; auction 1 1 = 100\n";
        Script.run("20 auction: there were 20, whether any were sold or not", nineteen
                + "bid 0 100 2 = 1; auction 2 1 = 100; owed = 3; bid 0 100 1 = 1; auction 1 1 ! state; bid 0 100 1 = 2; owed = 3\n"
                + "day 1 = 4; owed = 0; auction 1 1 ! state; ofBank 0 0 = 9");
        Script.run("20 auction: there were 20, and no bids", Script.counting(20, "auction 1 1", -1, 0) + "auction 1 1 ! state");
        Script.run("20 auction: the first one named is thrown", Script.counting(20, "auction 1 1", -1, 0)
                + "auction 0 1 ! argument; auction 1 51 ! argument; auction 10001 0 ! argument");
    }

    private static void takesBids() {
        String rich = "endow 0 1000 = 1000; endow 1 1000 = 1000; endow 2 1000 = 1000\n";
        Script.run("20 auction: by falling prices", rich + """
            bid 0 50 5 = 1; bid 1 100 5 = 2; bid 2 99 5 = 3; auction 10 1 = 99; ofBank 0 2 = 0; ofBank 1 2 = 5; ofBank 2 2 = 5
            """);
        Script.run("20 auction: of the same price by when they were told", rich + """
            bid 2 70 5 = 1; bid 1 70 5 = 2; bid 0 70 5 = 3; auction 6 1 = 70; ofBank 2 2 = 5; ofBank 1 2 = 1; ofBank 0 2 = 0
            """);
        Script.run("20 auction: as many are left as the last one asks for", rich + """
            bid 0 70 5 = 1; bid 1 60 5 = 2; bid 2 50 5 = 3; auction 10 1 = 60; ofBank 1 2 = 5; ofBank 2 2 = 0; treasury = 6
            """);
        Script.run("20 auction: 1 is left for the last one", rich + """
            bid 0 70 5 = 1; bid 1 60 5 = 2; bid 2 50 5 = 3; auction 11 1 = 50; ofBank 2 2 = 1; owed = 11; treasury = 7
            """);
        Script.run("20 auction: the last one lacks 1", rich + """
            bid 0 70 5 = 1; bid 1 60 5 = 2; auction 9 1 = 60; ofBank 1 2 = 4; owed = 9; treasury = 6
            """);
        Script.run("20 auction: more than all bids", rich + "bid 0 70 5 = 1; bid 1 60 5 = 2; auction 10000 1 = 60; owed = 10");
        Script.run("20 auction: each pays the least price, rounded up for each", rich + """
            bid 0 100 1 = 1; bid 0 100 1 = 2; bid 0 51 100 = 3; auction 102 1 = 51; treasury = 53; ofBank 0 0 = 947; ofBank 0 2 = 102
            """);
        Script.run("20 auction: what is even is not rounded", rich + "bid 0 50 2 = 1; bid 1 50 4 = 2; auction 6 1 = 50; treasury = 3");
    }

    private static void reservesForBids() {
        Script.run("20 auction: the reserves are what it would cost at its own price, or 1 fewer", """
            endow 0 9 = 9; endow 1 8 = 8; bid 1 90 10 = 1; bid 0 90 10 = 2; auction 20 1 = 90; ofBank 0 2 = 10; ofBank 1 2 = 0
            ofBank 0 0 = 0
            """);
        Script.run("20 auction: what it would cost is rounded up", """
            endow 0 1 = 1; bid 0 51 2 = 1; auction 2 1 = -1; bid 0 50 2 = 1; auction 2 1 = 50; ofBank 0 0 = 0
            """);
        Script.run("20 auction: what it would cost is rounded up, be it from a hundredth", """
            endow 0 2 = 2; bid 0 67 3 = 1; auction 3 1 = -1; endow 0 1 = 3; bid 0 67 3 = 1; auction 3 1 = 67; ofBank 0 0 = 0; treasury = 3
            """);
        Script.run("20 auction: at its own price, though the least one is less", """
            endow 0 9 = 9; endow 1 100 = 100; bid 0 100 10 = 1; bid 1 50 10 = 2; auction 20 1 = 50; ofBank 0 2 = 0; ofBank 1 2 = 10
            """);
        Script.run("20 auction: for what it would get, not for what it asks", """
            endow 0 5 = 5; bid 0 100 1000 = 1; auction 5 1 = 100; ofBank 0 2 = 5; ofBank 0 0 = 0
            """);
        Script.run("20 auction: for what it would get, and it is 1 too few", "endow 0 5 = 5; bid 0 100 1000 = 1; auction 6 1 = -1; owed = 0");
        Script.run("20 auction: besides its bids that were taken already at theirs", """
            endow 0 19 = 19; bid 0 100 10 = 1; bid 0 90 10 = 2; auction 20 1 = 90; ofBank 0 2 = 20; ofBank 0 0 = 1
            endow 1 18 = 18; bid 1 100 10 = 1; bid 1 90 10 = 2; auction 20 1 = 100; ofBank 1 2 = 10; ofBank 1 0 = 8
            """);
        Script.run("20 auction: besides all of its bids that were taken already, not the latest of them alone", """
            endow 0 26 = 26; endow 1 27 = 27; bid 0 100 10 = 1; bid 0 90 10 = 2; bid 0 80 10 = 3; auction 30 1 = 90; ofBank 0 2 = 20
            bid 1 100 10 = 1; bid 1 90 10 = 2; bid 1 80 10 = 3; auction 30 1 = 80; ofBank 1 2 = 30; ofBank 1 0 = 3
            """);
        Script.run("20 auction: one that was passed over costs nothing, and a later one of the bank may be taken", """
            endow 0 5 = 5; bid 0 100 6 = 1; bid 0 99 5 = 2; auction 6 1 = 99; ofBank 0 2 = 5; ofBank 0 0 = 0
            """);
        Script.run("20 auction: a bank without reserves", "bid 0 50 1 = 1; auction 1 1 = -1; ofBank 0 0 = 0");
        Script.run("20 auction: what other banks were promised does not count", """
            endow 0 10 = 10; endow 1 10 = 10; bid 0 100 10 = 1; bid 1 100 10 = 2; auction 20 1 = 100; ofBank 0 2 = 10; ofBank 1 2 = 10
            """);
    }

    private static void bondsAreDue() {
        String ten = "endow 0 100 = 100; bid 0 100 10 = 1\n";
        Script.run("20 auction: due so many days later: 1", ten + "day 3 = 4; auction 10 1 = 100; owed = 10; day 1 = 4; owed = 0; ofBank 0 0 = 100");
        Script.run("20 auction: due so many days later: 50, and not 49", ten + "auction 10 50 = 100\n" + Script.counting(9, "day 5", 4, 0)
                + "day 4 = 4; days = 49; owed = 10; treasury = 10; day 1 = 4; owed = 0; treasury = 0; ofBank 0 0 = 100");
        Script.run("27 day: bonds are due, and the treasury has 1 too few: the rest is due the next day again", ten + """
            open 10 1 = 1; auction 10 1 = 100; spend 10 1 = 9; day 1 = 4; owed = 1; treasury = 0; ofBank 0 2 = 1; ofBank 0 0 = 99
            day 1 = 4; owed = 1; ofBank 0 0 = 99; levy 10 100 = 1; day 1 = 4; owed = 0; treasury = 0; ofBank 0 0 = 100
            """);
        Script.run("27 day: bonds are due, and the treasury has nothing", ten + """
            open 10 1 = 1; auction 10 1 = 100; spend 10 10 = 0; day 1 = 4; owed = 10; treasury = 0; ofBank 0 2 = 10
            """);
        Script.run("27 day: those of earlier auctions first, though they were due later", """
            endow 0 100 = 100; endow 1 100 = 100; open 10 2 = 1; bid 0 100 10 = 1; auction 10 2 = 100; bid 1 100 10 = 1; auction 10 1 = 100
            spend 10 20 = 0; day 2 = 4; owed = 20; levy 10 60 = 12; day 1 = 4; ofBank 0 2 = 0; ofBank 1 2 = 8; owed = 8
            """);
        Script.run("27 day: of one auction first to the central bank, then to banks by their numbers", """
            endow 0 100 = 100; endow 1 100 = 100; endow 3 100 = 100; open 10 2 = 1
            bid 3 100 5 = 1; bid 1 100 5 = 2; bid 0 100 5 = 3; auction 15 1 = 100; buyBonds 3 2 = 3; spend 10 15 = 0; levy 10 20 = 3
            day 1 = 4; owed = 12; ofBank 0 2 = 4; ofBank 1 2 = 5; ofBank 3 2 = 3; levy 10 50 = 6; day 1 = 4
            ofBank 0 2 = 0; ofBank 1 2 = 3; ofBank 3 2 = 3; levy 10 100 = 6; day 1 = 4; owed = 0; treasury = 0
            """);
    }

    private static void levies() {
        String hundred = "rules 0 0 0 = 0; open 0 0 = 1; open 1 1 = 1; lend 0 0 100 0 = 0\n";
        Script.run("21 levy: percent: 1 to 100", hundred + "endow 0 200 = 200\n" + Script.beyond("levy 0 @", 1, 100, "argument")
                + "levy 0 1 = 1; levy 0 100 = 99; levy 0 99 = 0; treasury = 100");
        Script.run("21 levy: there is no such holder", Script.beyond("levy @ 1", 0, 15, "index") + "open 15 0 = 1; levy 15 1 = 0");
        Script.run("21 levy: it has no account", "mint 0 9 = 9; levy 0 100 ! state; open 0 0 = 1; levy 0 100 = 0");
        Script.run("21 levy: the reserves are not there", hundred + """
            levy 0 1 ! state; endow 0 49 = 49; levy 0 50 ! state; levy 0 49 = 49; ofBank 0 0 = 0; treasury = 49; levy 0 2 ! state
            """);
        Script.run("21 levy: the notes in the vault are no reserves", hundred + "mint 0 9 = 9; bring 0 9 = 9; levy 0 1 ! state");
        Script.run("21 levy: a share that is rounded down to 0 needs no reserves", hundred + "payBack 0 1 = 99; levy 0 1 = 0; treasury = 0");
        Script.run("21 levy: of the free part", hundred + """
            endow 0 100 = 100; pay 0 1 90 = 0; levy 0 50 = 5; ofHolder 0 1 = 95; ofHolder 0 2 = 5; levy 0 100 = 5; levy 0 100 = 0
            ofHolder 0 1 = 90
            """);
        Script.run("21 levy: the first one named is thrown", "levy 16 0 ! index; levy -1 101 ! index; levy 0 0 ! argument; levy 0 101 ! argument");
    }

    private static void spends() {
        String rich = "endow 0 10000 = 10000; endow 0 10000 = 20000\n" + Script.counting(12, "bid 0 100 1000", 1, 1)
                + "auction 10000 50 = 100; bid 0 100 1000 = 1; auction 1000 50 = 100; treasury = 11000; open 0 1 = 1\n";
        Script.run("22 spend: amount: 1 to 10000", rich + Script.beyond("spend 0 @", 1, 10000, "argument")
                + "spend 0 1 = 10999; spend 0 10000 = 999; ofHolder 0 1 = 10001; ofBank 1 0 = 10001");
        Script.run("22 spend: there is no such holder", rich + Script.beyond("spend @ 1", 0, 15, "index") + "open 15 0 = 1; spend 15 1 = 10999");
        Script.run("22 spend: the holder has no account", rich + "spend 1 1 ! state; open 1 0 = 1; spend 1 1 = 10999; close 0 = 1; spend 0 1 ! state");
        Script.run("22 spend: the treasury has not so much", """
            open 0 0 = 1; spend 0 1 ! state; endow 1 9 = 9; bid 1 100 9 = 1; auction 9 9 = 100; spend 0 10 ! state; spend 0 9 = 0
            spend 0 1 ! state
            """);
        Script.run("22 spend: the first one named is thrown", "spend 16 0 ! index; spend -1 10001 ! index; spend 0 0 ! argument; spend 0 10001 ! argument");
    }

    private static void exchanges() {
        Script.run("23 exchange: rate: 10 to 1000", "exchange 10 = 100; exchange 1000 = 10; exchange 11 = 1000; exchange 999 = 11\n"
                + Script.beyond("exchange @", 10, 1000, "argument") + "exchange 0 ! argument; exchange 100 = 999");
        Script.run("23 exchange: so much for 100, 100 at first", """
            open 10 0 = 1; abroad 10 7 true = 7; exchange 10 = 100; abroad 10 10 true = 1; abroad 10 9 true = 0; abroad 10 19 true = 1
            exchange 1000 = 10; abroad 10 1 true = 10
            """);
    }

    private static void sellsAbroad() {
        Script.run("24 abroad: amount: 1 to 1000", "open 10 0 = 1\n" + Script.beyond("abroad 10 @ true", 1, 1000, "argument")
                + Script.beyond("abroad 10 @ false", 1, 1000, "argument")
                + "abroad 10 1 true = 1; abroad 10 1000 true = 1000; abroad 10 1000 false = 1000; abroad 10 1 false = 1; foreign = 0");
        Script.run("24 abroad: there is no such firm", "open 9 0 = 1; open 10 0 = 2; open 15 0 = 3\n"
                + Script.beyond("abroad @ 1 true", 10, 15, "index") + Script.beyond("abroad @ 1 false", 10, 15, "index")
                + "abroad 0 1 true ! index; abroad 15 1 true = 1; abroad 10 1 true = 1");
        Script.run("24 abroad: it has no account", """
            abroad 11 1 true ! state; abroad 11 1 false ! state; open 10 0 = 1; abroad 10 5 true = 5; abroad 11 1 false ! state
            exchange 10 = 100; abroad 11 1 false ! state; abroad 11 1 true ! state
            """);
        Script.run("24 abroad: one that sells needs nothing", "open 10 0 = 1; abroad 10 1000 true = 1000; ofBank 0 0 = 1000; ofHolder 10 1 = 1000");
        Script.run("24 abroad: what it grows by is rounded down, be it to 0", """
            open 10 0 = 1; exchange 99 = 100; abroad 10 1 true = 0; foreign = 1; abroad 10 2 true = 1; abroad 10 100 true = 99; foreign = 103
            central = 0; centralAnew = 0
            """);
        Script.run("24 abroad: the first one named is thrown", "abroad 9 0 true ! index; abroad 16 1001 false ! index; abroad 10 0 true ! argument; abroad 10 1001 false ! argument");
    }

    private static void buysAbroad() {
        Script.run("24 abroad: the central bank has not so much foreign money", """
            open 10 0 = 1; endow 0 100 = 100; rules 0 0 0 = 0; lend 0 10 100 0 = 0; abroad 10 1 false ! state; abroad 10 5 true = 5
            abroad 10 6 false ! state; abroad 10 5 false = 5; foreign = 0; abroad 10 1 false ! state
            """);
        Script.run("24 abroad: the firm has not so much free", """
            open 10 0 = 1; open 11 0 = 2; open 12 1 = 1; abroad 10 50 true = 50; pay 10 11 20 = 0; pay 10 12 9 = 1
            abroad 10 22 false ! state; abroad 10 21 false = 21; abroad 10 1 false ! state; ofHolder 10 1 = 9; foreign = 29
            """);
        Script.run("24 abroad: the reserves are not there", """
            open 10 0 = 1; abroad 10 50 true = 50; draw 10 20 = 20; bring 10 20 = 20; ofBank 0 0 = 30; ofHolder 10 2 = 50
            abroad 10 31 false ! state; abroad 10 30 false = 30; ofBank 0 0 = 0; abroad 10 1 false ! state
            """);
        Script.run("24 abroad: what it falls by is rounded down, be it to 0", """
            open 10 0 = 1; open 11 1 = 1; abroad 10 9 true = 9; exchange 50 = 100; abroad 11 1 false = 0; foreign = 8; abroad 11 2 false ! state
            abroad 10 3 false = 1; foreign = 5; central = 0
            """);
    }
}
