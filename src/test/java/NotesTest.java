/** Promises 1 to 8: a new object, notes and accounts. */
public final class NotesTest {
    public static void main(String[] args) {
        aNewObject();
        Script.run("2 mint", """
            mint 0 1 = 1; mint 0 1000 = 1001; mint 15 5 = 5
            forge 0 100 = 1101; mint 0 1 = 1102
            central = -1007; centralAnew = -1007; money = 1007
            mint -1 1 ! index; mint 16 1 ! index; mint 16 0 ! index
            mint 0 0 ! argument; mint 0 1001 ! argument; mint 0 -5 ! argument
            ofHolder 0 3 = 1102; central = -1007
            """);
        Script.run("3 forge", """
            forge 3 1 = 1; forge 3 100 = 101; mint 3 9 = 110; forge 3 1 = 111
            ofHolder 3 3 = 111; ofHolder 3 4 = 102
            money = 9; central = -9; centralAnew = -9
            forge -1 1 ! index; forge 16 1 ! index; forge 16 0 ! index
            forge 3 0 ! argument; forge 3 101 ! argument
            ofHolder 3 4 = 102
            """);
        Script.run("4 hand: the share of the forged ones is rounded down", """
            mint 0 7 = 7; forge 0 3 = 10
            hand 0 1 3 = 0; hand 0 1 2 = 0       # 9 / 10, then 6 / 7
            ofHolder 0 3 = 5; ofHolder 0 4 = 3; ofHolder 1 3 = 5; ofHolder 1 4 = 0
            hand 0 12 4 = 2; ofHolder 12 3 = 4; ofHolder 12 4 = 2
            hand 0 12 1 = 1; ofHolder 0 3 = 0; ofHolder 0 4 = 0
            hand 1 0 5 = 0; money = 7; central = -7
            """);
        Script.run("4 hand: wrong", """
            mint 0 10 = 10
            hand 0 1 11 ! state; hand 1 0 1 ! state
            hand 0 0 1 ! argument; hand 0 1 0 ! argument; hand 0 1 10001 ! argument; hand 1 1 99 ! argument
            hand -1 0 1 ! index; hand 0 16 1 ! index; hand 16 16 0 ! index
            hand 0 1 10 = 0; hand 0 1 1 ! state; ofHolder 1 3 = 10
            """);
        Script.run("5 open", """
            open 0 0 = 1; open 15 0 = 2; open 1 3 = 1; open 2 0 = 3
            ofHolder 15 0 = 0; ofHolder 1 0 = 3; ofHolder 3 0 = -1
            open 0 0 ! state; open 0 1 ! state
            open -1 0 ! index; open 16 0 ! index; open 3 -1 ! index; open 3 4 ! index; open 0 4 ! index
            fail 2 = 0; open 3 2 ! state; ofHolder 3 0 = -1
            close 15 = 0; open 15 0 = 3
            """);
        Script.run("6 close", """
            open 0 0 = 1; open 1 1 = 1; open 2 1 = 2
            close 3 ! state; close -1 ! index; close 16 ! index
            lend 0 0 50 0 ! state; rules 0 0 10 = 0; lend 0 0 50 0 = 0
            close 0 ! state                      # there is something in it
            pay 0 1 50 = 0; close 0 ! state; close 1 ! state
            close 2 = 1; open 2 1 = 2; close 2 = 1
            endow 0 50 = 50; clear = 1
            close 0 = 0; ofHolder 0 0 = -1; close 0 ! state
            close 1 ! state; pay 1 2 1 ! state; open 2 1 = 2; pay 1 2 50 = 1
            close 1 = 1                          # a payment came to it, but none waits
            """);
        Script.run("6 close: a payment that was taken back waits no more", """
            open 0 0 = 1; open 1 1 = 1; rules 0 0 0 = 0; lend 0 0 50 0 = 0; pay 0 1 50 = 0
            close 1 ! state; fail 0 = 50; payment 0 = 2; close 1 = 1
            """);
        Script.run("7 bring", """
            open 0 2 = 1; mint 0 70 = 70; forge 0 30 = 100
            bring 0 5 = 4                        # 150 / 100 is 1 forged
            ofHolder 0 3 = 95; ofHolder 0 4 = 29; ofHolder 0 1 = 4; ofBank 2 1 = 4; ofBank 2 0 = 0
            bring 0 95 = 66; ofHolder 0 3 = 0; ofHolder 0 4 = 0; ofHolder 0 1 = 70; ofBank 2 1 = 70
            ofBank 2 6 = 0; money = 70; central = -70; centralAnew = -70; accountAnew 0 = 70
            """);
        Script.run("7 bring: wrong", """
            mint 0 10 = 10; bring 0 1 ! state; open 0 0 = 1
            bring 0 11 ! state; bring 0 0 ! argument; bring 0 10001 ! argument
            bring -1 1 ! index; bring 16 0 ! index
            bring 0 10 = 10; bring 0 1 ! state
            forge 0 5 = 5; bring 0 5 = 0; ofHolder 0 3 = 0; ofBank 0 1 = 10
            """);
        Script.run("8 draw: from the vault first, then made for reserves", """
            open 0 0 = 1; mint 0 100 = 100; bring 0 100 = 100; endow 0 30 = 30; rules 0 0 0 = 0
            lend 0 0 50 0 = 0
            draw 0 60 = 60; ofBank 0 1 = 40; ofBank 0 0 = 30
            draw 0 60 = 60; ofBank 0 1 = 0; ofBank 0 0 = 10; ofHolder 0 1 = 30; ofHolder 0 3 = 120
            central = -130; centralAnew = -130; money = 150
            draw 0 10 = 10; ofBank 0 0 = 0; ofBank 0 9 = 0
            """);
        Script.run("8 draw: a bank that has not enough gives what it has, and fails", """
            open 0 1 = 1; open 1 1 = 2; mint 1 20 = 20; bring 1 20 = 20; endow 1 5 = 5; rules 0 0 0 = 0
            lend 1 0 300 0 = 0
            draw 0 100 = 25; ofBank 1 9 = 1; ofHolder 0 3 = 25
            # 275 and 20 were left: 150 of the loan's 300 to pay out, 120 sure, 30 for the other 175
            ofHolder 0 0 = 0; ofHolder 0 1 = 130; ofHolder 1 1 = 20; ofBank 0 0 = 150; ofHolder 1 0 = 0
            central = 125; centralAnew = 125; money = 175
            """);
        Script.run("8 draw: wrong", """
            draw 0 1 ! state; open 0 0 = 1; open 1 1 = 1; mint 0 10 = 10; bring 0 10 = 10
            draw 0 11 ! state; draw 0 0 ! argument; draw 0 10001 ! argument; draw 16 0 ! index; draw -1 1 ! index
            pay 0 1 4 = 0; draw 0 7 ! state; draw 0 6 = 6; draw 0 1 ! state; ofHolder 0 1 = 4
            """);
        Script.end();
    }

    private static void aNewObject() {
        Script.run("1 a new object", """
            days = 0; treasury = 0; owed = 0; foreign = 0; central = 0; centralAnew = 0; money = 0
            ofLoan 0 0 ! index; payment 0 ! index; sales 0 true = 0; sales 0 false = 0; sales 1 true ! index
            limit 0 0 = 1000; limit 3 5 = 1000; rules 5 5 5 = 0; exchange 50 = 100; clear = 0
            auction 10 1 = -1; bid 0 50 1 = 1
            """);
        for (int h = 0; h < 16; h++) {
            String row = "ofHolder " + h + " ";
            Script.run("1 a new holder", row + "0 = -1;" + row + "1 = 0;" + row + "2 = 0;" + row + "3 = 0;" + row
                    + "4 = 0;" + row + "5 = -1;" + row + "6 = 0;" + row + "7 = " + (h < 10 ? 10 : 0) + "; accountAnew "
                    + h + " = 0");
            if (h > 9) Script.run("1 a new firm", "price " + h + " = 10");
        }
        for (int b = 0; b < 4; b++) {
            for (int what = 0; what < 10; what++) Script.run("1 a new bank", "ofBank " + b + " " + what + " = 0");
        }
    }
}
