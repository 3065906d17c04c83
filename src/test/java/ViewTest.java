/** Promises 7 to 20: what the host sees of objects of every kind and of messages, and that looking changes nothing. */
public final class ViewTest {
    private static final int[] WRONG = {-2147483648, -2, -1, 12, 40, 2147483647};

    public static void main(String[] args) {
        everyKind();
        wrongNumbers();
        messages();
        countsAs();
        Script.end();
    }

    /** Objects 0 to 11: two cells, gate and facet, brand, sealer, unsealer, box, mint, purse, membrane, wrapper. */
    private static CapabilityVats oneOfEach() {
        return Script.run("one of each kind", """
                cell 2 = 0; cell 2 = 1; introduce 0 0 1 = true
                send 0 0 9 0 -1 = 0; send 0 0 10 -1 1 = 1; turn 2 = 0; turn 2 = 1
                send 0 1 0 -1 2 = 2; send 0 1 1 -1 -1 = 3; turn 2 = 2; turn 2 = 3; number 0 3 60 = true
                send 0 2 0 3 -1 = 4; turn 2 = 4; send 0 0 11 -1 1 = 5; turn 2 = 5; send 0 1 0 3 -1 = 6; turn 2 = 6
                send 0 0 12 -1 1 = 7; turn 2 = 7; send 0 1 0 0 2 = 8; turn 2 = 8; objects = 12; messages = 9
                """);
    }

    private static void everyKind() {
        CapabilityVats x = oneOfEach();
        int[] kinds = {0, 0, 1, 2, 3, 4, 5, 6, 7, 8, 9, 10};
        int[] firsts = {0, 0, 0, 2, 0, 4, 4, 4, 0, 60, 0, 10};
        int[] seconds = {0, 0, 3, 0, 0, 0, 0, 0, 0, 8, 0, 0};
        int[] held = {-1, -1, -1, 2, -1, -1, -1, 1, -1, -1, -1, 2};
        int[] which = {0, 0, 0, 1, 0, 0, 0, 60, 0, 0, 0, 1};
        for (int object = 0; object < kinds.length; object++) {
            Script.more(x, "8, 9: kind and home", "kind " + object + " = " + kinds[object] + "; home " + object + " = 2");
            Script.more(x, "12: details", "detail " + object + " 0 = " + firsts[object]
                    + "; detail " + object + " 1 = " + seconds[object]
                    + "; detail " + object + " 2 = -1; detail " + object + " -1 = -1");
            Script.more(x, "10, 11: the slot 4", "what " + object + " 4 = " + held[object]
                    + "; which " + object + " 4 = " + which[object]
                    + "; what " + object + " 5 = -1; which " + object + " 5 = 0"
                    + "; what " + object + " -1 = -1; which " + object + " -1 = 0");
            for (int slot = 0; slot < 4 && object > 1; slot++) {
                Script.more(x, "10, 11: no slots but a cell's", "what " + object + " " + slot + " = -1; which "
                        + object + " " + slot + " = 0");
            }
        }
        Script.more(x, "10, 11: a cell's slots", """
                what 0 0 = 2; which 0 0 = 1; what 0 1 = 2; which 0 1 = 10; what 0 2 = 2; which 0 2 = 11
                what 0 3 = 1; which 0 3 = 60; what 1 0 = 0; which 1 0 = 0
                """);
    }

    private static void wrongNumbers() {
        CapabilityVats x = oneOfEach();
        for (int wrong : WRONG) {
            Script.more(x, "8 to 12: no such object", "kind " + wrong + " = -1; home " + wrong + " = -1; what " + wrong
                    + " 0 = -1; what " + wrong + " 4 = -1; which " + wrong + " 0 = 0; which " + wrong
                    + " 4 = 0; detail " + wrong + " 0 = -1; detail " + wrong + " 1 = -1");
            Script.more(x, "10 to 12: no such slot or part", "what 0 " + wrong + " = -1; which 0 " + wrong
                    + " = 0; detail 2 " + wrong + " = -1");
            Script.more(x, "14 to 20: no such message, promise or vat", "place " + wrong + " = -1; result " + wrong
                    + " = -1; value " + wrong + " = 0; waiting " + wrong + " = -1; notes " + wrong + " = -1; queued "
                    + wrong + " = -1; next " + wrong + " 0 = -3; next 0 " + wrong + " = -3; turn " + wrong + " = -1");
        }
        Script.more(x, "7, 13: nothing has changed", "objects = 12; messages = 9; place 9 = -1; result 9 = -1; value 9 = 0");
    }

    private static void messages() {
        Script.run("13 to 20: a message on its way", """
                cell 0 = 0; cell 1 = 1; introduce 0 0 1 = true; introduce 1 0 0 = true; messages = 0
                send 0 0 0 -1 1 = 0; messages = 1; send 0 1 3 -1 2 = 1; messages = 2
                place 0 = 1; place 1 = 2; queued 1 = 1; next 1 0 = 0; waiting 0 = 1; waiting 1 = 0
                result 0 = 3; value 0 = 0; result 1 = 3; value 1 = 1; notes 0 = 0; notes 1 = 0
                place 0 = 1; place 1 = 2; queued 1 = 1; next 1 0 = 0; waiting 0 = 1
                number 0 3 -9 = true; turn 1 = 0; place 0 = 0; place 1 = 1; queued 1 = 0; queued 0 = 1; next 0 0 = 1
                result 0 = 2; value 0 = 0; waiting 0 = 0; turn 0 = 1; place 1 = 0; result 1 = 1; value 1 = -9
                messages = 2
                """);
    }

    private static void countsAs() {
        Script.run("10, 11, 15, 16: each promise tells the open one that it counts as", """
                cell 0 = 0; introduce 0 0 0 = true; send 0 0 2 -1 1 = 0; send 0 0 3 -1 2 = 1; send 0 0 0 -1 3 = 2
                what 0 1 = 3; which 0 1 = 0; what 0 2 = 3; which 0 2 = 1; what 0 3 = 3; which 0 3 = 2
                turn 0 = 0; what 0 1 = 3; which 0 1 = 1; result 0 = 3; value 0 = 1; place 0 = 0
                turn 0 = 1; what 0 1 = 3; which 0 1 = 2; result 0 = 3; value 0 = 2; result 1 = 3; value 1 = 2
                turn 0 = 2; what 0 1 = 2; which 0 1 = 0; result 0 = 2; value 0 = 0; result 2 = 2; value 2 = 0
                """);
    }
}
