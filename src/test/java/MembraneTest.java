/** Promises 6 and 20 for membranes and wrappers, with 10, 11 and 12. */
public final class MembraneTest {
    public static void main(String[] args) {
        membrane();
        wrapping();
        relaying();
        answers();
        promises();
        severalMembranes();
        eightNotes();
        revoked();
        full();
        Script.end();
    }

    /**
     * Cell 0 in vat 0 has itself in slot 0, the membrane 2 of vat 0 in slot 2, and in slot 3 its outward wrapper 3
     * for cell 1, which is at home in vat 1.
     */
    private static final String MADE = """
            cell 0 = 0; cell 1 = 1; introduce 0 0 0 = true; introduce 0 1 1 = true
            send 0 0 12 -1 2 = 0; turn 0 = 0; send 0 2 0 1 3 = 1; turn 0 = 1
            kind 2 = 9; kind 3 = 10; which 0 2 = 2; which 0 3 = 3; objects = 4
            """;

    private static void membrane() {
        Script.run("6: what a membrane answers", MADE + """
                home 2 = 0; home 3 = 0; detail 2 0 = 0; detail 2 1 = 0; detail 3 0 = 2; detail 3 1 = 0
                what 2 4 = -1; what 3 4 = 2; which 3 4 = 1; what 3 0 = -1
                send 0 2 2 -1 1 = 2; turn 0 = 2; what 0 1 = 1; which 0 1 = 0
                send 0 2 3 -1 1 = 3; turn 0 = 3; what 0 1 = 4; detail 2 0 = 0
                send 0 2 1 -1 1 = 4; turn 0 = 4; what 0 1 = 1; which 0 1 = 0; detail 2 0 = 1
                send 0 2 2 -1 1 = 5; turn 0 = 5; what 0 1 = 1; which 0 1 = 1
                send 0 2 1 -1 1 = 6; turn 0 = 6; which 0 1 = 0; detail 2 0 = 1
                send 0 2 0 0 1 = 7; turn 0 = 7; what 0 1 = 2; which 0 1 = 4; kind 4 = 10
                """);
    }

    private static void wrapping() {
        Script.run("6: what stays, and what has its wrapper already", MADE + """
                send 0 2 0 1 -1 = 2; turn 0 = 2; value 2 = 3; objects = 4
                send 0 2 0 3 -1 = 3; turn 0 = 3; value 3 = 3; objects = 4
                number 0 1 6 = true; send 0 2 0 1 -1 = 4; turn 0 = 4; result 4 = 1; value 4 = 6
                send 0 2 0 -1 1 = 5; turn 0 = 5; result 5 = 4; objects = 4
                send 0 2 0 1 -1 = 6; turn 0 = 6; result 6 = 4; objects = 4
                send 0 2 0 2 -1 = 7; turn 0 = 7; result 7 = 2; value 7 = 4; kind 4 = 10; which 4 4 = 2
                send 0 2 0 0 -1 = 8; turn 0 = 8; value 8 = 5; which 5 4 = 0; home 5 = 0; objects = 6
                """);
        Script.run("6: an inward wrapper that is wrapped outward gives its target", MADE + """
                send 0 3 4 0 -1 = 2; turn 0 = 2; objects = 5; turn 1 = 2
                kind 4 = 10; detail 4 0 = 2; detail 4 1 = 1; which 4 4 = 0; what 1 0 = 2; which 1 0 = 4
                introduce 0 1 4 = true; send 0 2 0 1 -1 = 3; turn 0 = 3; result 3 = 2; value 3 = 0; objects = 5
                """);
        Script.run("6: the home of a wrapper is that of its membrane", """
                cell 0 = 0; cell 2 = 1; introduce 0 0 1 = true; send 0 0 12 -1 1 = 0; turn 2 = 0; home 2 = 2
                introduce 0 2 0 = true; send 0 1 0 2 -1 = 1; turn 2 = 1; home 3 = 2; which 3 4 = 0
                """);
    }

    private static void relaying() {
        Script.run("6, 20: a wrapper relays with the argument wrapped the other way, and the message notes it", MADE + """
                number 0 1 5 = true; notes 0 = 0; notes 2 = -1; notes -1 = -1
                send 0 3 4 1 -1 = 2; notes 2 = 0; turn 0 = 2; notes 2 = 1; place 2 = 1; next 1 0 = 2; turn 1 = 2
                what 1 0 = 1; which 1 0 = 5; notes 2 = 1; result 2 = 1; value 2 = 0
                send 0 3 5 0 -1 = 3; turn 0 = 3; turn 1 = 3; which 1 1 = 4; detail 4 1 = 1; home 4 = 0; objects = 5
                send 0 3 6 0 -1 = 4; turn 0 = 4; turn 1 = 4; what 1 2 = 2; which 1 2 = 4; objects = 5
                send 0 3 7 3 -1 = 5; turn 0 = 5; turn 1 = 5; what 1 3 = 2; which 1 3 = 1; objects = 5
                send 0 3 5 -1 -1 = 6; turn 0 = 6; turn 1 = 6; what 1 1 = 0; notes 6 = 1
                send 0 0 14 -1 1 = 7; turn 0 = 7; send 0 3 6 1 -1 = 8; turn 0 = 8; turn 1 = 8; what 1 2 = 4
                """);
    }

    private static void answers() {
        Script.run("6: an answer is wrapped as noted", MADE + """
                introduce 1 0 0 = true; number 1 1 8 = true; introduce 1 2 1 = true; introduce 1 3 3 = true
                send 0 3 0 -1 1 = 2; turn 0 = 2; turn 1 = 2; which 0 1 = 4; kind 4 = 10; detail 4 1 = 0; which 4 4 = 0
                send 0 3 1 -1 1 = 3; turn 0 = 3; turn 1 = 3; what 0 1 = 1; which 0 1 = 8
                send 0 3 2 -1 1 = 4; turn 0 = 4; turn 1 = 4; which 0 1 = 3
                send 0 3 3 -1 1 = 5; turn 0 = 5; turn 1 = 5; which 0 1 = 3; objects = 5
                send 0 3 8 -1 1 = 6; turn 0 = 6; turn 1 = 6; kind 5 = 0; kind 6 = 10; which 0 1 = 6; which 6 4 = 5
                home 5 = 1; home 6 = 0; detail 6 1 = 0
                send 0 3 13 -1 1 = 7; turn 0 = 7; turn 1 = 7; what 0 1 = 4; notes 7 = 1
                """);
        Script.run("6: through an inward wrapper the argument goes outward and the answer inward", MADE + """
                send 0 3 4 0 -1 = 2; turn 0 = 2; turn 1 = 2; which 1 0 = 4; detail 4 1 = 1
                introduce 1 1 1 = true; send 1 0 5 1 -1 = 3; turn 0 = 3; notes 3 = 1; next 0 0 = 3; turn 0 = 3
                what 0 1 = 2; which 0 1 = 3; objects = 5
                introduce 0 1 0 = true; send 1 0 1 -1 2 = 4; turn 0 = 4; turn 0 = 4; what 1 2 = 2; which 1 2 = 4
                send 1 0 8 -1 3 = 5; turn 0 = 5; turn 0 = 5; kind 5 = 0; kind 6 = 10; detail 6 1 = 1; which 6 4 = 5
                which 1 3 = 6
                """);
    }

    private static void promises() {
        Script.run("6: an open promise has a wrapper, which is that of what it is resolved to", MADE + """
                cell 2 = 4; cell 2 = 5; introduce 0 1 4 = true; introduce 4 0 5 = true; send 0 1 0 -1 1 = 2
                send 0 2 0 1 -1 = 3; turn 0 = 3; value 3 = 6; kind 6 = 10; what 6 4 = 3; which 6 4 = 2
                send 0 2 0 1 -1 = 4; turn 0 = 4; value 4 = 6; objects = 7
                introduce 0 3 5 = true; send 0 2 0 3 -1 = 5; turn 0 = 5; value 5 = 7; objects = 8
                introduce 0 3 6 = true; send 0 3 1 -1 -1 = 6; turn 0 = 6; place 6 = 2; waiting 2 = 1; notes 6 = 1
                turn 2 = 2; what 6 4 = 2; which 6 4 = 5; next 2 0 = 6
                introduce 0 3 5 = true; send 0 2 0 3 -1 = 7; turn 0 = 7; value 7 = 6; objects = 8
                """);
        Script.run("6: a target that came to be a number or broken", MADE + """
                cell 2 = 4; introduce 0 1 4 = true; number 4 0 12 = true; send 0 1 0 -1 1 = 2
                send 0 2 0 1 3 = 3; turn 0 = 3; which 0 3 = 5; turn 2 = 2; what 5 4 = 1; which 5 4 = 12
                send 0 3 0 -1 -1 = 4; turn 0 = 4; place 4 = 0; result 4 = 4; notes 4 = 1
                send 0 2 0 1 -1 = 5; turn 0 = 5; result 5 = 1; value 5 = 12; objects = 6
                """);
        Script.run("6: what comes out of an inward wrapper may be the message's own promise, which is broken then", MADE + """
                send 0 0 9 3 1 = 2; turn 0 = 2; send 0 1 0 -1 1 = 3; turn 0 = 3; kind 5 = 2; which 0 1 = 5
                send 0 1 0 -1 1 = 4; send 0 3 4 1 -1 = 5; turn 0 = 4; turn 0 = 5; turn 0 = 4
                kind 6 = 10; detail 6 1 = 1; what 6 4 = 3; which 6 4 = 4; turn 1 = 5; which 1 0 = 6
                turn 1 = 4; result 4 = 4; what 6 4 = 4; objects = 7
                """);
        Script.run("6: a promise that counts as itself is wrapped before it is resolved", MADE + """
                send 0 3 0 -1 1 = 2; introduce 0 3 1 = true; send 0 3 4 1 -1 = 3; turn 1 = 3
                what 1 0 = 3; which 1 0 = 2; turn 0 = 2; turn 1 = 2
                result 2 = 2; value 2 = 4; kind 4 = 10; what 4 4 = 2; which 4 4 = 4
                send 0 1 0 -1 -1 = 4; turn 0 = 4; notes 4 = 1; turn 0 = 4; notes 4 = 2; place 4 = 1
                """);
    }

    private static void severalMembranes() {
        Script.run("6: each membrane has wrappers of its own, and so has each direction", MADE + """
                send 0 0 12 -1 3 = 2; turn 0 = 2; send 0 3 0 1 -1 = 3; turn 0 = 3
                kind 4 = 9; value 3 = 5; kind 5 = 10; detail 5 0 = 4; which 5 4 = 1; detail 3 0 = 2; which 3 4 = 1
                introduce 0 3 3 = true; send 0 3 4 1 -1 = 4; turn 0 = 4; turn 1 = 4
                which 1 0 = 6; detail 6 0 = 2; detail 6 1 = 1; which 6 4 = 1; objects = 7
                send 0 2 0 1 -1 = 5; turn 0 = 5; value 5 = 3
                """);
        Script.run("6: two membranes, the latest note first", MADE + """
                send 0 0 12 -1 1 = 2; turn 0 = 2; kind 4 = 9
                send 0 1 0 3 3 = 3; turn 0 = 3; kind 5 = 10; detail 5 0 = 4; which 5 4 = 3
                number 1 1 1 = true; send 0 3 5 0 -1 = 4; turn 0 = 4; notes 4 = 1; next 0 0 = 4
                kind 6 = 10; detail 6 0 = 4; detail 6 1 = 1; which 6 4 = 0
                turn 0 = 4; notes 4 = 2; next 1 0 = 4; detail 7 0 = 2; detail 7 1 = 1; which 7 4 = 6; turn 1 = 4
                which 1 1 = 7; objects = 8; result 4 = 1
                send 0 3 8 -1 3 = 5; turn 0 = 5; turn 0 = 5; turn 1 = 5; kind 8 = 0
                kind 9 = 10; detail 9 0 = 2; detail 9 1 = 0; which 9 4 = 8
                kind 10 = 10; detail 10 0 = 4; detail 10 1 = 0; which 10 4 = 9; which 0 3 = 10; objects = 11
                """);
        Script.run("6: broken from the note on whose membrane is revoked by then", MADE + """
                send 0 0 12 -1 1 = 2; turn 0 = 2; send 0 1 0 3 3 = 3; turn 0 = 3
                send 0 3 8 -1 3 = 4; turn 0 = 4; turn 0 = 4; send 0 1 1 -1 -1 = 5; turn 0 = 5; detail 4 0 = 1
                turn 1 = 4; what 0 3 = 4; kind 6 = 0; kind 7 = 10; detail 7 0 = 2; which 7 4 = 6; objects = 8
                """);
        Script.run("6: no wrapper is made for the notes before a revoked one", MADE + """
                send 0 0 12 -1 1 = 2; turn 0 = 2; send 0 1 0 3 3 = 3; turn 0 = 3
                send 0 3 8 -1 3 = 4; turn 0 = 4; turn 0 = 4; send 0 2 1 -1 -1 = 5; turn 0 = 5; detail 2 0 = 1
                turn 1 = 4; what 0 3 = 4; kind 6 = 0; objects = 7; notes 4 = 2
                """);
    }

    private static void eightNotes() {
        CapabilityVats x = Script.run("20: eight notes", """
                cell 0 = 0; cell 1 = 1; introduce 0 0 0 = true; introduce 0 1 1 = true; number 1 0 4 = true
                """);
        int message = 0;
        for (int layer = 1; layer <= 9; layer++) {
            Script.more(x, "20: a wrapper of a wrapper",
                    "send 0 0 12 -1 2 = " + message + "; turn 0 = " + message
                    + "; send 0 2 0 1 1 = " + (message + 1) + "; turn 0 = " + (message + 1)
                    + "; which 0 1 = " + (2 * layer + 1));
            message += 2;
            if (layer == 8) {
                Script.more(x, "20: with eight notes it comes through", "send 0 1 0 -1 3 = " + message);
                for (int note = 1; note <= 8; note++) {
                    Script.more(x, "20: eight notes", "turn 0 = " + message + "; notes " + message + " = " + note);
                }
                Script.more(x, "20: it comes through", "turn 1 = " + message + "; what 0 3 = 1; which 0 3 = 4");
                message++;
            }
        }
        Script.more(x, "20: a ninth note is broken", "send 0 1 0 -1 3 = 19");
        for (int note = 1; note <= 8; note++) {
            Script.more(x, "20: up to eight notes", "turn 0 = 19; notes 19 = " + note + "; place 19 = 1");
        }
        Script.more(x, "20: a ninth note is broken", "turn 0 = 19; what 0 3 = 4; place 19 = 0; notes 19 = 8; queued 1 = 0");
        messageOfWrapperThatIsItsTarget();
    }

    private static void messageOfWrapperThatIsItsTarget() {
        CapabilityVats x = Script.run("20: round and round", MADE + """
                send 0 3 0 -1 1 = 2; introduce 0 3 1 = true; send 0 3 4 1 -1 = 3; turn 1 = 3; turn 0 = 2; turn 1 = 2
                which 4 4 = 4; send 0 1 0 -1 3 = 4
                """);
        for (int note = 1; note <= 8; note++) {
            Script.more(x, "20: round and round", "turn 0 = 4; notes 4 = " + note);
        }
        Script.more(x, "20: the ninth time is broken", "turn 0 = 4; notes 4 = 8; what 0 3 = 4; turn 0 = -3");
    }

    private static void revoked() {
        Script.run("6: a wrapper of a revoked membrane is broken", MADE + """
                send 0 2 1 -1 -1 = 2; turn 0 = 2; send 0 3 4 0 1 = 3; turn 0 = 3
                what 0 1 = 4; notes 3 = 0; place 3 = 0; objects = 4; what 1 0 = 0; what 3 4 = 2; which 3 4 = 1
                """);
        Script.run("6: an answer that comes when its membrane is revoked is broken, and what was done is done", MADE + """
                number 0 1 3 = true; send 0 3 4 1 1 = 2; turn 0 = 2; send 0 2 1 -1 -1 = 3; turn 0 = 3
                turn 1 = 2; what 1 0 = 1; which 1 0 = 3; what 0 1 = 4
                """);
        Script.run("6: a facet behind a wrapper that is revoked is broken, and so is its answer", MADE + """
                send 0 0 9 1 1 = 2; turn 0 = 2; send 0 1 0 -1 3 = 3; turn 0 = 3; which 0 3 = 5
                send 0 2 0 3 3 = 4; turn 0 = 4; kind 6 = 10; send 0 3 0 -1 3 = 5; send 0 1 1 -1 -1 = 6
                turn 0 = 5; turn 0 = 6; turn 0 = 5; result 5 = 4; notes 5 = 1; place 5 = 0
                """);
    }

    private static void full() {
        CapabilityVats x = Script.run("6: with 40 objects", MADE);
        for (int made = 4; made < 40; made++) {
            x.cell(0);
        }
        Script.more(x, "6: with 40 objects what would need a new wrapper is broken", """
                send 0 2 0 0 -1 = 2; turn 0 = 2; result 2 = 4; send 0 2 0 1 -1 = 3; turn 0 = 3; value 3 = 3
                number 1 1 5 = true; send 0 3 5 0 -1 = 4; turn 0 = 4; notes 4 = 1; place 4 = 1
                turn 1 = 4; what 1 1 = 4; result 4 = 1; value 4 = 0
                introduce 1 2 0 = true; send 0 3 2 -1 -1 = 5; turn 0 = 5; turn 1 = 5; result 5 = 4; objects = 40
                introduce 1 2 1 = true; send 0 3 2 -1 -1 = 6; turn 0 = 6; turn 1 = 6; result 6 = 2; value 6 = 3
                """);
        fullBetweenNotes();
    }

    private static void fullBetweenNotes() {
        CapabilityVats x = Script.run("6: the last object is the first note's wrapper", MADE + """
                send 0 0 12 -1 1 = 2; turn 0 = 2; send 0 1 0 3 3 = 3; turn 0 = 3; introduce 1 0 0 = true
                """);
        for (int made = 6; made < 39; made++) {
            x.cell(0);
        }
        Script.more(x, "6: a wrapper made for one note stays when there is none for the next", """
                objects = 39; send 0 3 0 -1 3 = 4; turn 0 = 4; turn 0 = 4; turn 1 = 4
                objects = 40; kind 39 = 10; detail 39 0 = 2; which 39 4 = 0; what 0 3 = 4
                """);
    }
}
