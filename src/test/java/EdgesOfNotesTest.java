/** Promises 1 to 8: each sentence of the document that names an edge has rows of its own; the title tells it. */
public final class EdgesOfNotesTest {
    private static final String ELEVEN_THOUSAND = Script.counting(11, "mint 0 1000", 1000, 1000);

    public static void main(String[] args) {
        makesNotes();
        handsNotes();
        opensAndCloses();
        brings();
        draws();
        Script.end();
    }

    private static void makesNotes() {
        Script.run("2 mint: amount: 1 to 1000", "mint 0 1 = 1; mint 0 1000 = 1001; mint 0 999 = 2000; mint 0 2 = 2002\n"
                + Script.beyond("mint 0 @", 1, 1000, "argument") + "mint 0 1 = 2003; central = -2003; centralAnew = -2003");
        Script.run("2 mint: there is no such holder", "mint 0 1 = 1; mint 9 1 = 1; mint 10 1 = 1; mint 15 1 = 1\n"
                + Script.beyond("mint @ 1", 0, 15, "index") + "money = 4");
        Script.run("2 mint: returns how many notes it has then, forged ones, too", "forge 0 7 = 7; mint 0 1 = 8; mint 1 1 = 1");
        Script.run("2 mint: the first one named is thrown", "mint 16 0 ! index; mint -1 1001 ! index; mint 16 1001 ! index");
        Script.run("3 forge: amount: 1 to 100", "forge 0 1 = 1; forge 0 100 = 101; forge 0 99 = 200; forge 0 2 = 202\n"
                + Script.beyond("forge 0 @", 1, 100, "argument") + "forge 0 1 = 203; ofHolder 0 4 = 203; money = 0; central = 0");
        Script.run("3 forge: there is no such holder", "forge 0 1 = 1; forge 9 1 = 1; forge 10 1 = 1; forge 15 1 = 1\n"
                + Script.beyond("forge @ 1", 0, 15, "index"));
        Script.run("3 forge: returns how many notes it has then, forged ones, too", "mint 0 5 = 5; forge 0 1 = 6; forge 1 1 = 1");
        Script.run("3 forge: the first one named is thrown", "forge 16 0 ! index; forge -1 101 ! index");
    }

    private static void handsNotes() {
        Script.run("4 hand: amount: 1 to 10000", ELEVEN_THOUSAND + "hand 0 1 10001 ! argument; hand 0 1 10000 = 0; hand 0 1 1 = 0\n"
                + "ofHolder 0 3 = 999; ofHolder 1 3 = 10001\n" + Script.beyond("hand 1 0 @", 1, 10000, "argument"));
        Script.run("4 hand: there is no such holder", "mint 0 5 = 5; hand 0 15 1 = 0; hand 15 0 1 = 0\n"
                + Script.beyond("hand 0 @ 1", 0, 15, "index") + Script.beyond("hand @ 0 1", 0, 15, "index"));
        Script.run("4 hand: both are the same", """
            mint 0 5 = 5; hand 0 0 1 ! argument; hand 0 0 5 ! argument; mint 15 5 = 5; hand 15 15 5 ! argument; hand 1 1 1 ! argument
            """);
        Script.run("4 hand: the first one has not so many", """
            mint 0 10 = 10; mint 1 50 = 50; hand 0 1 11 ! state; hand 0 1 10 = 0; hand 0 1 1 ! state; hand 2 1 1 ! state
            hand 1 0 61 ! state; hand 1 0 60 = 0
            """);
        Script.run("4 hand: forged ones are notes that it has", "mint 0 2 = 2; forge 0 3 = 5; hand 0 1 6 ! state; hand 0 1 5 = 3");
        Script.run("4 hand: the share of forged ones is rounded down", """
            mint 0 99 = 99; forge 0 1 = 100; hand 0 1 99 = 0; hand 0 1 1 = 1; hand 1 0 100 = 1; hand 0 1 100 = 1
            """);
        Script.run("4 hand: none is forged, or all are", """
            mint 0 9 = 9; hand 0 1 9 = 0; forge 0 9 = 9; hand 0 1 4 = 4; hand 0 1 5 = 5; ofHolder 1 3 = 18; ofHolder 1 4 = 9
            """);
        Script.run("4 hand: the first one named is thrown", """
            mint 0 10 = 10
            hand 0 16 11 ! index; hand 0 16 0 ! index; hand 16 0 10001 ! index; hand 16 16 1 ! index; hand -1 -1 0 ! index
            hand 0 0 11 ! argument; hand 0 1 10001 ! argument; hand 1 0 0 ! argument; hand 1 1 1 ! argument
            """);
    }

    private static void opensAndCloses() {
        Script.run("5 open: there is no such holder or bank", "open 0 0 = 1; open 15 3 = 1\n"
                + Script.beyond("open @ 0", 0, 15, "index") + Script.beyond("open 1 @", 0, 3, "index")
                + "open 16 4 ! index; open 1 3 = 2; open 9 0 = 2; open 10 0 = 3");
        Script.run("5 open: the holder has one, at this bank or another one", """
            open 0 0 = 1; open 0 0 ! state; open 0 1 ! state; open 0 3 ! state; close 0 = 0; open 0 3 = 1; open 0 3 ! state
            """);
        Script.run("5 open: the bank has failed", """
            fail 1 = 0; open 0 1 ! state; open 0 0 = 1; open 0 1 ! state; fail 3 = 0; open 1 3 ! state; open 1 2 = 1
            """);
        Script.run("5 open: an account that has moved to another bank is one, too", """
            open 0 0 = 1; open 1 1 = 1; fail 0 = 0; open 0 1 ! state; open 0 2 ! state; open 2 1 = 3
            """);
        Script.run("5 open: all holders have one at a bank", allOpen() + "open 15 2 ! state; close 15 = 2; open 15 2 = 16");
        Script.run("5 open: the first one named is thrown", """
            open 0 0 = 1; open 0 4 ! index; open 0 -1 ! index; fail 0 = 0; open 16 0 ! index; open -1 0 ! index
            """);
        Script.run("6 close: there is no such holder", "open 0 0 = 1; open 15 1 = 1\n" + Script.beyond("close @", 0, 15, "index")
                + "close 0 = 0; close 15 = 1");
        Script.run("6 close: it has none", "close 0 ! state; open 0 0 = 1; close 0 = 0; close 0 ! state; close 15 ! state");
        Script.run("6 close: there is something in it", """
            open 0 0 = 1; mint 0 2 = 2; bring 0 2 = 2; close 0 ! state; draw 0 1 = 1; close 0 ! state; draw 0 1 = 1; close 0 = 0
            """);
        Script.run("6 close: a payment waits to it, until it is done", """
            rules 0 0 0 = 0; open 0 0 = 1; open 1 1 = 1; open 2 1 = 2; lend 0 0 1 0 = 0; pay 0 1 1 = 0
            close 1 ! state; close 2 = 1; endow 0 1 = 1; clear = 1; close 1 ! state; draw 1 1 = 1; close 1 = 1
            """);
        Script.run("6 close: a payment waits to it, until it is taken back", """
            rules 0 0 0 = 0; open 0 0 = 1; open 1 1 = 1; lend 0 0 1 0 = 0; pay 0 1 1 = 0; close 1 ! state; fail 0 = 1
            payment 0 = 2; close 1 = 1
            """);
        Script.run("6 close: a payment from it is in it as long as it waits", """
            rules 0 0 0 = 0; open 0 0 = 1; open 1 1 = 1; lend 0 0 1 0 = 0; pay 0 1 1 = 0; ofHolder 0 2 = 0; close 0 ! state
            endow 0 1 = 1; clear = 1; close 0 = 0
            """);
    }

    private static String allOpen() {
        StringBuilder all = new StringBuilder();
        for (int h = 0; h < 16; h++) all.append("open ").append(h).append(" 2 = ").append(h + 1).append('\n');
        return all.toString();
    }

    private static void brings() {
        Script.run("7 bring: amount: 1 to 10000", ELEVEN_THOUSAND + "open 0 0 = 1; bring 0 10001 ! argument; bring 0 10000 = 10000\n"
                + "bring 0 1 = 1; ofHolder 0 3 = 999; ofBank 0 1 = 10001; ofHolder 0 1 = 10001\n"
                + Script.beyond("bring 0 @", 1, 10000, "argument"));
        Script.run("7 bring: there is no such holder", "mint 15 1 = 1; open 15 0 = 1; mint 0 1 = 1; open 0 0 = 2\n"
                + Script.beyond("bring @ 1", 0, 15, "index") + "bring 15 1 = 1; bring 0 1 = 1");
        Script.run("7 bring: it has no account", "mint 0 5 = 5; bring 0 5 ! state; open 0 0 = 1; bring 0 5 = 5");
        Script.run("7 bring: it has not so many notes", """
            open 0 0 = 1; bring 0 1 ! state; mint 0 5 = 5; bring 0 6 ! state; bring 0 5 = 5; bring 0 1 ! state
            """);
        Script.run("7 bring: the share of forged ones is rounded down", """
            open 0 0 = 1; mint 0 1 = 1; forge 0 1 = 2; bring 0 1 = 1; bring 0 1 = 0; ofHolder 0 3 = 0; ofBank 0 1 = 1
            """);
        Script.run("7 bring: none is forged, or all are", """
            open 0 0 = 1; mint 0 100 = 100; bring 0 100 = 100; forge 0 100 = 100; bring 0 100 = 0; ofHolder 0 1 = 100
            ofHolder 0 3 = 0; ofHolder 0 4 = 0; ofBank 0 1 = 100; money = 100
            """);
        Script.run("7 bring: the first one named is thrown", """
            bring 16 0 ! index; bring -1 10001 ! index; bring 16 1 ! index
            bring 0 0 ! argument; bring 0 10001 ! argument; open 0 0 = 1; bring 0 10001 ! argument; bring 0 10000 ! state
            """);
    }

    private static void draws() {
        Script.run("8 draw: amount: 1 to 10000", ELEVEN_THOUSAND + "open 0 0 = 1; bring 0 10000 = 10000; bring 0 1000 = 1000\n"
                + "draw 0 10001 ! argument; draw 0 10000 = 10000; draw 0 1 = 1; ofHolder 0 1 = 999\n"
                + Script.beyond("draw 0 @", 1, 10000, "argument"));
        Script.run("8 draw: there is no such holder", "mint 15 1 = 1; open 15 0 = 1; bring 15 1 = 1\n"
                + Script.beyond("draw @ 1", 0, 15, "index") + "draw 15 1 = 1");
        Script.run("8 draw: it has no account", "mint 0 5 = 5; draw 0 1 ! state; open 0 0 = 1; bring 0 5 = 5; draw 0 1 = 1");
        Script.run("8 draw: not so much free", """
            open 0 0 = 1; draw 0 1 ! state; mint 0 9 = 9; bring 0 5 = 5; draw 0 6 ! state; draw 0 5 = 5; draw 0 1 ! state
            """);
        Script.run("8 draw: what is blocked is not free", """
            open 0 0 = 1; open 1 1 = 1; mint 0 9 = 9; bring 0 9 = 9; pay 0 1 4 = 0; draw 0 6 ! state; draw 0 5 = 5
            draw 0 1 ! state; fail 1 = 0; draw 0 4 = 4
            """);
        Script.run("8 draw: the vault is enough", """
            open 0 0 = 1; mint 0 10 = 10; bring 0 10 = 10; endow 0 5 = 5; draw 0 10 = 10; ofBank 0 1 = 0; ofBank 0 0 = 5
            """);
        Script.run("8 draw: what the vault has not is made for reserves", """
            open 0 0 = 1; mint 0 10 = 10; bring 0 10 = 10; endow 0 5 = 5; rules 0 0 0 = 0; lend 0 0 1 0 = 0
            draw 0 11 = 11; ofBank 0 1 = 0; ofBank 0 0 = 4; central = -15; centralAnew = -15; ofBank 0 9 = 0
            """);
        Script.run("8 draw: both together are just enough", """
            open 0 0 = 1; mint 0 10 = 10; bring 0 10 = 10; endow 0 5 = 5; lend 0 0 10 0 = 0
            draw 0 15 = 15; ofBank 0 1 = 0; ofBank 0 0 = 0; ofBank 0 9 = 0; ofHolder 0 1 = 5; ofHolder 0 0 = 0
            """);
        Script.run("8 draw: both together are 1 too few: the bank fails", """
            open 0 0 = 1; mint 0 10 = 10; bring 0 10 = 10; endow 0 5 = 5; lend 0 0 10 0 = 0
            draw 0 16 = 15; ofBank 0 9 = 1; ofHolder 0 3 = 15; ofHolder 0 1 = 5; ofHolder 0 0 = 1; ofBank 1 0 = 5
            """);
        Script.run("8 draw: the bank has neither: it gets none", """
            rules 0 0 0 = 0; open 0 0 = 1; lend 0 0 50 0 = 0; draw 0 1 = 0; ofBank 0 9 = 1; ofHolder 0 3 = 0
            ofHolder 0 1 = 50; ofHolder 0 0 = 1; ofBank 1 0 = 50
            """);
        Script.run("8 draw: the last bank fails: what is drawn is told, what is paid out comes on top", """
            fail 0 = 0; fail 1 = 0; fail 2 = 0; rules 0 0 0 = 0; open 0 3 = 1; endow 3 7 = 7; lend 3 0 50 0 = 0
            draw 0 8 = 7; ofHolder 0 3 = 50; ofHolder 0 0 = -1; ofHolder 0 1 = 0; money = 50; draw 0 1 ! state
            """);
        Script.run("8 draw: the first one named is thrown", """
            draw 16 0 ! index; draw -1 10001 ! index; draw 16 1 ! index; draw 0 0 ! argument; draw 0 10001 ! argument
            open 0 0 = 1; draw 0 10001 ! argument; draw 0 10000 ! state
            """);
    }
}
