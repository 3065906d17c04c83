/** Promise 6, with 14, 15, 16 and 19: turns, what cells answer, and how promises are resolved. */
public final class TurnTest {
    public static void main(String[] args) {
        turns();
        slots();
        makes();
        chains();
        itself();
        longChains();
        Script.end();
    }

    private static void turns() {
        Script.run("6: a turn takes the first of the vat's queue", """
                turn 3 = -1; turn -1 = -1; turn 0 = -3
                cell 0 = 0; cell 1 = 1; introduce 0 0 0 = true; introduce 0 1 1 = true
                send 0 0 10 -1 -1 = 0; send 0 1 10 -1 -1 = 1; send 0 0 11 -1 -1 = 2
                turn 2 = -3; turn 1 = 1; home 2 = 1; kind 2 = 3; turn 1 = -3; turn 3 = -1
                turn 0 = 0; kind 3 = 3; home 3 = 0; turn 0 = 2; kind 4 = 7; turn 0 = -3
                objects = 5; messages = 3
                """);
    }

    private static void slots() {
        Script.run("6: a cell gives what is in a slot and takes what comes", """
                cell 0 = 0; cell 0 = 1; introduce 0 0 1 = true
                number 1 0 10 = true; number 1 1 11 = true; introduce 1 2 0 = true
                send 0 0 0 -1 1 = 0; turn 0 = 0; result 0 = 1; value 0 = 10; what 0 1 = 1; which 0 1 = 10
                send 0 0 1 -1 -1 = 1; turn 0 = 1; result 1 = 1; value 1 = 11
                send 0 0 2 -1 2 = 2; turn 0 = 2; result 2 = 2; value 2 = 0; what 0 2 = 2; which 0 2 = 0
                send 0 0 3 -1 3 = 3; turn 0 = 3; result 3 = 4; value 3 = 0; what 0 3 = 4; which 0 3 = 0
                send 0 0 4 0 -1 = 4; turn 0 = 4; result 4 = 1; value 4 = 0; what 1 0 = 2; which 1 0 = 1
                send 0 0 5 3 -1 = 5; turn 0 = 5; result 5 = 1; what 1 1 = 4
                send 0 0 6 -1 -1 = 6; turn 0 = 6; result 6 = 1; value 6 = 0; what 1 2 = 0
                send 0 0 7 1 -1 = 7; turn 0 = 7; what 1 3 = 1; which 1 3 = 10
                send 0 0 1 -1 -1 = 8; turn 0 = 8; result 8 = 4
                send 0 0 13 1 -1 = 9; turn 0 = 9; result 9 = 4; send 0 0 14 1 -1 = 10; turn 0 = 10; result 10 = 4
                send 0 0 15 1 -1 = 11; turn 0 = 11; result 11 = 4; objects = 2
                """);
    }

    private static void makes() {
        CapabilityVats x = Script.run("6: a cell makes objects at its own home", """
                cell 0 = 0; cell 2 = 1; introduce 0 0 1 = true
                send 0 0 8 0 1 = 0; send 0 0 9 0 -1 = 1; send 0 0 10 0 -1 = 2
                send 0 0 11 0 -1 = 3; send 0 0 12 0 -1 = 4
                turn 2 = 0; turn 2 = 1; turn 2 = 2; turn 2 = 3; turn 2 = 4
                result 0 = 2; value 0 = 2; kind 2 = 0; home 2 = 2; what 2 0 = 0; what 2 3 = 0
                result 1 = 2; value 1 = 3; kind 3 = 1; kind 4 = 2; home 3 = 2; home 4 = 2
                result 2 = 2; value 2 = 5; kind 5 = 3; home 5 = 2
                result 3 = 2; value 3 = 6; kind 6 = 7; home 6 = 2
                result 4 = 2; value 4 = 7; kind 7 = 9; home 7 = 2
                objects = 8; which 0 1 = 2
                """);
        for (int made = 8; made < 39; made++) {
            Script.more(x, "6: up to 39", "cell 0 = " + made);
        }
        Script.more(x, "6: with 39 objects no gate, with 40 nothing is made", """
                send 0 0 9 0 -1 = 5; turn 2 = 5; result 5 = 4; objects = 39
                send 0 0 8 -1 -1 = 6; turn 2 = 6; result 6 = 2; value 6 = 39; objects = 40
                send 0 0 8 -1 -1 = 7; send 0 0 9 0 -1 = 8; send 0 0 10 -1 -1 = 9
                send 0 0 11 -1 -1 = 10; send 0 0 12 -1 -1 = 11
                turn 2 = 7; turn 2 = 8; turn 2 = 9; turn 2 = 10; turn 2 = 11
                result 7 = 4; result 8 = 4; result 9 = 4; result 10 = 4; result 11 = 4; objects = 40
                """);
        CapabilityVats full = Script.run("6: with 38 objects a gate is made", "cell 0 = 0; introduce 0 0 0 = true");
        for (int made = 1; made < 38; made++) {
            Script.more(full, "6: up to 38", "cell 0 = " + made);
        }
        Script.more(full, "6: with 38 objects a gate is made", """
                send 0 0 9 0 -1 = 0; turn 0 = 0; result 0 = 2; value 0 = 38; kind 38 = 1; kind 39 = 2; objects = 40
                """);
    }

    private static void chains() {
        Script.run("6: resolved to an open promise, whose waiters come behind the others there", """
                cell 0 = 0; cell 1 = 1; cell 2 = 2
                introduce 0 0 1 = true; introduce 0 1 2 = true; introduce 2 0 0 = true
                send 0 1 0 -1 2 = 0; send 0 0 4 2 -1 = 1; send 0 0 0 -1 3 = 2
                send 0 2 3 -1 -1 = 3; send 0 3 0 -1 -1 = 4; send 0 2 1 -1 -1 = 5; send 0 3 2 -1 -1 = 6
                waiting 0 = 2; waiting 2 = 2; turn 1 = 1; what 1 0 = 3; which 1 0 = 0
                turn 1 = 2; place 2 = 0; result 2 = 3; value 2 = 0; what 0 3 = 3; which 0 3 = 0
                waiting 0 = 4; waiting 2 = 0; place 4 = 2; place 6 = 2
                send 0 3 1 -1 -1 = 7; waiting 0 = 5; waiting 2 = 0
                turn 2 = 0; waiting 0 = 0; result 0 = 2; value 0 = 0; result 2 = 2; value 2 = 0
                queued 0 = 5; next 0 0 = 3; next 0 1 = 5; next 0 2 = 4; next 0 3 = 6; next 0 4 = 7
                what 0 3 = 2; which 0 3 = 0; what 1 0 = 2; which 1 0 = 0
                """);
        Script.run("6: what is broken breaks those that wait, and those that wait there", """
                cell 0 = 0; cell 1 = 1; introduce 0 0 1 = true
                send 0 0 0 -1 1 = 0; send 0 1 0 -1 2 = 1; send 0 2 0 -1 3 = 2; send 0 3 0 -1 -1 = 3
                send 0 1 0 -1 -1 = 4
                place 1 = 2; place 2 = 2; place 3 = 2; turn 1 = 0
                result 0 = 4; result 1 = 4; result 2 = 4; result 3 = 4; result 4 = 4
                place 1 = 0; place 2 = 0; place 3 = 0; place 4 = 0; waiting 0 = 0; waiting 1 = 0; waiting 2 = 0
                what 0 1 = 4; what 0 2 = 4; what 0 3 = 4; queued 0 = 0; queued 1 = 0
                """);
        Script.run("6: an argument counts as what it is resolved to by the time of the turn", """
                cell 0 = 0; introduce 0 0 0 = true; number 0 1 5 = true
                send 0 0 11 -1 2 = 0; turn 0 = 0
                send 0 0 1 -1 3 = 1; send 0 2 0 3 3 = 2; turn 0 = 1; turn 0 = 2
                what 0 3 = 2; which 0 3 = 2; detail 2 0 = 5
                """);
        Script.run("6: an argument that is still open is no number", """
                cell 0 = 0; cell 1 = 1; introduce 0 0 0 = true; introduce 0 1 1 = true; number 1 0 5 = true
                send 0 0 11 -1 2 = 0; turn 0 = 0; send 0 1 0 -1 3 = 1; send 0 2 0 3 -1 = 2
                turn 0 = 2; result 2 = 4; turn 1 = 1; result 1 = 1; result 2 = 4; objects = 3
                """);
    }

    private static void itself() {
        Script.run("6: resolved to itself is broken", """
                cell 0 = 0; introduce 0 0 0 = true
                send 0 0 1 -1 1 = 0; what 0 1 = 3; which 0 1 = 0; turn 0 = 0
                result 0 = 4; what 0 1 = 4; place 0 = 0
                """);
        Script.run("6: resolved round a ring is broken where it closes", """
                cell 0 = 0; introduce 0 0 0 = true
                send 0 0 2 -1 1 = 0; send 0 0 1 -1 2 = 1; send 0 1 0 -1 3 = 2; send 0 2 0 -1 -1 = 3
                turn 0 = 0; result 0 = 3; value 0 = 1; place 0 = 0; waiting 0 = 0; waiting 1 = 2
                what 0 1 = 3; which 0 1 = 1
                turn 0 = 1; result 0 = 4; result 1 = 4; result 2 = 4; result 3 = 4; what 0 1 = 4; what 0 2 = 4
                value 0 = 0; value 1 = 0; place 2 = 0; place 3 = 0
                """);
    }

    private static void longChains() {
        CapabilityVats broken = Script.run("6: a chain of 200 that breaks", "cell 0 = 0; cell 1 = 1; introduce 0 0 1 = true");
        Script.more(broken, "6: its first", "send 0 0 0 -1 1 = 0");
        for (int sent = 1; sent < 200; sent++) {
            Script.more(broken, "6: each waits at the one before", "send 0 1 0 -1 1 = " + sent + "; place " + sent + " = 2");
        }
        Script.more(broken, "6: a chain of 200 that breaks", "turn 1 = 0; result 0 = 4; what 0 1 = 4; queued 1 = 0");
        for (int sent = 1; sent < 200; sent += 9) {
            Script.more(broken, "6: all of it breaks", "result " + sent + " = 4; place " + sent + " = 0; waiting " + sent + " = 0");
        }
        resolvedChain();
    }

    /** Each promise is resolved to the one behind it, which is open still; then the last is resolved. */
    private static void resolvedChain() {
        CapabilityVats x = Script.run("6: promises resolved to one another", """
                cell 0 = 0; introduce 0 0 0 = true; send 0 0 1 -1 1 = 0; send 0 1 2 -1 2 = 1; waiting 0 = 1
                """);
        for (int sent = 2; sent < 200; sent++) {
            int last = sent == 2 ? 0 : sent - 1;
            Script.more(x, "6: promises resolved to one another", "send 0 0 1 -1 1 = " + sent + "; turn 0 = " + last
                    + "; result 0 = 3; value 0 = " + sent + "; waiting " + sent + " = 1; waiting " + last + " = 0");
        }
        Script.more(x, "6: the last is resolved", """
                introduce 0 1 0 = true; place 1 = 2; turn 0 = 199; result 0 = 2; value 0 = 0; result 198 = 2
                place 1 = 1; next 0 0 = 1; turn 0 = 1
                """);
    }
}
