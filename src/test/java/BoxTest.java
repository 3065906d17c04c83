/** Promise 6 for brands, sealers, unsealers and boxes, with 10, 11 and 12. */
public final class BoxTest {
    public static void main(String[] args) {
        brand();
        boxes();
        full();
        Script.end();
    }

    /** Cell 0 in vat 0 has the sealer 3 in slot 2 and the unsealer 4 in slot 3; their brand 2 is at home in vat 1. */
    private static final String MADE = """
            cell 0 = 0; cell 1 = 1; introduce 0 0 1 = true
            send 0 0 10 -1 1 = 0; turn 1 = 0; send 0 1 0 -1 2 = 1; turn 1 = 1; send 0 1 1 -1 3 = 2; turn 1 = 2
            kind 2 = 3; kind 3 = 4; kind 4 = 5; which 0 2 = 3; which 0 3 = 4
            """;

    private static void brand() {
        Script.run("6: a brand makes sealers and unsealers", MADE + """
                home 2 = 1; home 3 = 1; home 4 = 1
                detail 2 0 = 0; detail 2 1 = 0; detail 3 0 = 2; detail 3 1 = 0; detail 4 0 = 2; detail 4 1 = 0
                what 2 4 = -1; what 3 4 = -1; what 4 4 = -1; which 3 4 = 0
                send 0 1 0 -1 -1 = 3; turn 1 = 3; kind 5 = 4; detail 5 0 = 2
                send 0 1 2 -1 -1 = 4; turn 1 = 4; result 4 = 4; send 0 1 15 -1 -1 = 5; turn 1 = 5; result 5 = 4
                send 0 2 1 0 -1 = 6; turn 1 = 6; result 6 = 4; send 0 3 1 0 -1 = 7; turn 1 = 7; result 7 = 4
                objects = 6
                """);
    }

    private static void boxes() {
        Script.run("6: a box is opened by an unsealer of its brand alone", MADE + """
                number 0 0 42 = true; send 0 2 0 0 0 = 3; turn 1 = 3
                kind 5 = 6; home 5 = 1; detail 5 0 = 2; detail 5 1 = 0; what 5 4 = 1; which 5 4 = 42; what 5 0 = -1
                send 0 0 0 -1 -1 = 4; turn 1 = 4; result 4 = 4; send 0 0 7 -1 -1 = 5; turn 1 = 5; result 5 = 4
                send 0 3 0 0 -1 = 6; turn 1 = 6; result 6 = 1; value 6 = 42
                send 0 3 0 -1 -1 = 7; turn 1 = 7; result 7 = 4
                send 0 3 0 2 -1 = 8; turn 1 = 8; result 8 = 4
                send 0 2 0 -1 0 = 9; turn 1 = 9; kind 6 = 6; what 6 4 = 0; which 6 4 = 0
                send 0 3 0 0 -1 = 10; turn 1 = 10; result 10 = 4
                send 0 2 0 1 0 = 11; turn 1 = 11; which 7 4 = 2; what 7 4 = 2
                introduce 0 2 1 = true; send 0 2 10 -1 1 = 12; turn 1 = 12; send 0 1 1 -1 1 = 13; turn 1 = 13
                kind 9 = 5; detail 9 0 = 8; send 0 1 0 0 -1 = 14; turn 1 = 14; result 14 = 4
                send 0 3 0 0 -1 = 15; turn 1 = 15; result 15 = 2; value 15 = 2
                """);
        Script.run("6: a box with an open promise in it", MADE + """
                cell 2 = 5; introduce 0 0 5 = true; number 5 0 3 = true; send 0 0 0 -1 1 = 3
                send 0 2 0 1 0 = 4; turn 1 = 4; kind 6 = 6; what 6 4 = 3; which 6 4 = 3
                send 0 3 0 0 -1 = 5; turn 1 = 5; result 5 = 3; value 5 = 3; place 5 = 0
                turn 2 = 3; what 6 4 = 1; which 6 4 = 3; result 5 = 1; value 5 = 3
                """);
        Script.run("6: an open promise is no box, what it is resolved to may be one", MADE + """
                number 0 0 6 = true; send 0 2 0 0 0 = 3; send 0 3 0 0 1 = 4
                turn 1 = 3; turn 1 = 4; result 4 = 1; value 4 = 6
                cell 2 = 6; introduce 0 1 6 = true; introduce 6 0 5 = true; send 0 1 0 -1 1 = 5; send 0 3 0 1 -1 = 6
                turn 1 = 6; result 6 = 4; turn 2 = 5; result 5 = 2; value 5 = 5
                """);
    }

    private static void full() {
        CapabilityVats x = Script.run("6: with 40 objects", MADE);
        for (int made = 5; made < 40; made++) {
            x.cell(0);
        }
        Script.more(x, "6: with 40 objects nothing is made", """
                objects = 40; send 0 1 0 -1 -1 = 3; send 0 1 1 -1 -1 = 4; send 0 2 0 0 -1 = 5
                turn 1 = 3; turn 1 = 4; turn 1 = 5; result 3 = 4; result 4 = 4; result 5 = 4; objects = 40
                """);
    }
}
