/** Promise 6 for mints and purses, with 12. */
public final class PurseTest {
    public static void main(String[] args) {
        mint();
        purse();
        deposit();
        split();
        full();
        Script.end();
    }

    /** Cell 0 in vat 0 has the mint 2 in slot 1 and its purse 3 with 100 in slot 2, both at home in vat 2. */
    private static final String MADE = """
            cell 0 = 0; cell 2 = 1; introduce 0 0 1 = true; number 0 3 100 = true
            send 0 0 11 -1 1 = 0; turn 2 = 0; send 0 1 0 3 2 = 1; turn 2 = 1
            kind 2 = 7; kind 3 = 8; which 0 1 = 2; which 0 2 = 3
            """;

    private static void mint() {
        Script.run("6: a mint makes purses of 0 to 1000000", MADE + """
                home 2 = 2; home 3 = 2; detail 2 0 = 0; detail 2 1 = 0; detail 3 0 = 100; detail 3 1 = 2
                what 3 4 = -1; what 3 0 = -1
                number 0 3 0 = true; send 0 1 0 3 -1 = 2; turn 2 = 2; kind 4 = 8; detail 4 0 = 0; detail 4 1 = 2
                number 0 3 1000000 = true; send 0 1 0 3 -1 = 3; turn 2 = 3; kind 5 = 8; detail 5 0 = 1000000
                number 0 3 1000001 = true; send 0 1 0 3 -1 = 4; turn 2 = 4; result 4 = 4
                number 0 3 -1 = true; send 0 1 0 3 -1 = 5; turn 2 = 5; result 5 = 4
                send 0 1 0 -1 -1 = 6; turn 2 = 6; result 6 = 4
                send 0 1 0 2 -1 = 7; turn 2 = 7; result 7 = 4
                number 0 3 1 = true; send 0 1 1 3 -1 = 8; turn 2 = 8; result 8 = 4; objects = 6
                """);
    }

    private static void purse() {
        Script.run("6: a purse is at home where its mint or purse is", """
                cell 0 = 0; cell 1 = 1; cell 2 = 2; introduce 0 0 1 = true; number 0 3 5 = true
                send 0 0 11 -1 1 = 0; turn 1 = 0; send 0 1 0 3 2 = 1; turn 1 = 1; kind 4 = 8; home 3 = 1; home 4 = 1
                send 0 2 1 -1 -1 = 2; turn 1 = 2; home 5 = 1; send 0 2 3 3 -1 = 3; turn 1 = 3; home 6 = 1
                """);
        Script.run("6: a purse tells its balance and makes empty purses", MADE + """
                send 0 2 0 -1 3 = 2; turn 2 = 2; what 0 3 = 1; which 0 3 = 100
                send 0 2 1 -1 3 = 3; turn 2 = 3; kind 4 = 8; home 4 = 2; detail 4 0 = 0; detail 4 1 = 2; which 0 3 = 4
                send 0 3 0 -1 3 = 4; turn 2 = 4; what 0 3 = 1; which 0 3 = 0
                send 0 2 4 -1 3 = 5; turn 2 = 5; what 0 3 = 4; send 0 2 15 -1 3 = 6; turn 2 = 6; what 0 3 = 4
                detail 3 0 = 100; objects = 5
                """);
    }

    private static void deposit() {
        Script.run("6: another purse of the same mint goes over whole", MADE + """
                number 0 3 7 = true; send 0 1 0 3 3 = 2; turn 2 = 2; detail 4 0 = 7
                send 0 2 2 3 -1 = 3; turn 2 = 3; result 3 = 1; value 3 = 7; detail 3 0 = 107; detail 4 0 = 0
                send 0 2 2 3 -1 = 4; turn 2 = 4; result 4 = 1; value 4 = 0; detail 3 0 = 107; detail 4 0 = 0
                send 0 3 2 2 -1 = 5; turn 2 = 5; value 5 = 107; detail 3 0 = 0; detail 4 0 = 107
                send 0 3 2 3 -1 = 6; turn 2 = 6; result 6 = 4; detail 4 0 = 107
                send 0 3 2 -1 -1 = 7; turn 2 = 7; result 7 = 4; send 0 3 2 1 -1 = 8; turn 2 = 8; result 8 = 4
                detail 4 0 = 107
                """);
        Script.run("6: no purse of another mint", MADE + """
                send 0 0 11 -1 1 = 2; turn 2 = 2; send 0 1 0 3 3 = 3; turn 2 = 3; detail 5 1 = 4; detail 5 0 = 100
                send 0 2 2 3 -1 = 4; turn 2 = 4; result 4 = 4; detail 3 0 = 100; detail 5 0 = 100
                """);
    }

    private static void split() {
        Script.run("6: a part goes to a new purse", MADE + """
                number 0 3 30 = true; send 0 2 3 3 -1 = 2; turn 2 = 2; result 2 = 2; value 2 = 4
                detail 3 0 = 70; detail 4 0 = 30; detail 4 1 = 2; home 4 = 2
                number 0 3 71 = true; send 0 2 3 3 -1 = 3; turn 2 = 3; result 3 = 4; detail 3 0 = 70
                number 0 3 -1 = true; send 0 2 3 3 -1 = 4; turn 2 = 4; result 4 = 4
                send 0 2 3 -1 -1 = 5; turn 2 = 5; result 5 = 4; send 0 2 3 2 -1 = 6; turn 2 = 6; result 6 = 4
                objects = 5; detail 3 0 = 70
                number 0 3 0 = true; send 0 2 3 3 -1 = 7; turn 2 = 7; value 7 = 5; detail 5 0 = 0; detail 3 0 = 70
                number 0 3 70 = true; send 0 2 3 3 -1 = 8; turn 2 = 8; value 8 = 6; detail 6 0 = 70; detail 3 0 = 0
                """);
    }

    private static void full() {
        CapabilityVats x = Script.run("6: with 40 objects", MADE);
        for (int made = 4; made < 40; made++) {
            x.cell(0);
        }
        Script.more(x, "6: with 40 objects no purse is made and no balance moves", """
                number 0 3 30 = true; send 0 2 3 3 -1 = 2; send 0 2 1 -1 -1 = 3; send 0 1 0 3 -1 = 4
                turn 2 = 2; turn 2 = 3; turn 2 = 4; result 2 = 4; result 3 = 4; result 4 = 4
                objects = 40; detail 3 0 = 100
                """);
    }
}
