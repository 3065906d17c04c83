/** Promise 6 for gates and facets, with 10, 11 and 12. */
public final class GateTest {
    public static void main(String[] args) {
        gate();
        facet();
        facetTargets();
        Script.end();
    }

    /** Cell 0 in vat 0 has itself in slot 0; gate 2 in slot 1 and its facet 3 in slot 2 are for cell 1 in vat 1. */
    private static final String MADE = """
            cell 0 = 0; cell 1 = 1; introduce 0 0 0 = true; introduce 0 1 1 = true; number 1 0 9 = true
            send 0 0 9 1 1 = 0; turn 0 = 0; send 0 1 0 -1 2 = 1; turn 0 = 1
            what 0 1 = 2; which 0 1 = 2; what 0 2 = 2; which 0 2 = 3
            """;

    private static void gate() {
        Script.run("6: what a gate answers", MADE + """
                kind 2 = 1; kind 3 = 2; home 2 = 0; home 3 = 0
                detail 2 0 = 0; detail 2 1 = 3; detail 3 0 = 2; detail 3 1 = 0
                what 2 4 = -1; which 2 4 = 0; what 3 4 = 2; which 3 4 = 1; what 3 0 = -1; which 3 0 = 0
                send 0 1 2 -1 3 = 2; turn 0 = 2; what 0 3 = 1; which 0 3 = 0
                send 0 1 3 -1 3 = 3; turn 0 = 3; what 0 3 = 4; send 0 1 15 -1 3 = 4; turn 0 = 4; what 0 3 = 4
                detail 2 0 = 0
                send 0 1 1 -1 3 = 5; turn 0 = 5; what 0 3 = 1; which 0 3 = 0; detail 2 0 = 1
                send 0 1 2 -1 3 = 6; turn 0 = 6; what 0 3 = 1; which 0 3 = 1
                send 0 1 1 -1 3 = 7; turn 0 = 7; which 0 3 = 0; detail 2 0 = 1
                send 0 1 0 -1 3 = 8; turn 0 = 8; what 0 3 = 2; which 0 3 = 3
                """);
    }

    private static void facet() {
        Script.run("6: a facet relays, with the argument, until its gate is revoked", MADE + """
                send 0 2 0 -1 3 = 2; queued 0 = 1; turn 0 = 2; place 2 = 1; queued 0 = 0; next 1 0 = 2; result 2 = 3
                turn 1 = 2; what 0 3 = 1; which 0 3 = 9; notes 2 = 0
                send 0 2 5 0 -1 = 3; turn 0 = 3; turn 1 = 3; what 1 1 = 2; which 1 1 = 0
                send 0 2 15 -1 3 = 4; turn 0 = 4; place 4 = 1; turn 1 = 4; what 0 3 = 4
                send 0 2 0 -1 -1 = 5; turn 0 = 5; send 0 2 0 -1 -1 = 6
                send 0 1 1 -1 -1 = 7; turn 0 = 6; place 6 = 1; turn 0 = 7
                send 0 2 0 -1 3 = 8; turn 0 = 8; place 8 = 0; what 0 3 = 4
                turn 1 = 5; result 5 = 1; value 5 = 9; turn 1 = 6; result 6 = 1; value 6 = 9; turn 1 = -3
                what 3 4 = 2; which 3 4 = 1
                """);
    }

    private static void facetTargets() {
        Script.run("6: a facet for nothing or a number breaks what it relays", """
                cell 0 = 0; introduce 0 0 0 = true; number 0 3 4 = true
                send 0 0 9 -1 1 = 0; send 0 0 9 3 2 = 1; turn 0 = 0; turn 0 = 1
                what 2 4 = 0; which 2 4 = 0; what 4 4 = 1; which 4 4 = 4
                send 0 1 0 -1 1 = 2; send 0 2 0 -1 2 = 3; turn 0 = 2; turn 0 = 3
                send 0 1 0 -1 -1 = 4; send 0 2 0 -1 -1 = 5
                turn 0 = 4; place 4 = 0; result 4 = 4; turn 0 = 5; place 5 = 0; result 5 = 4
                """);
        Script.run("6: what a facet relays to an open promise waits there", """
                cell 0 = 0; cell 1 = 1; introduce 0 0 0 = true; introduce 0 1 1 = true; introduce 1 0 0 = true
                send 0 1 0 -1 1 = 0; send 0 0 9 1 2 = 1; turn 0 = 1; what 3 4 = 3; which 3 4 = 0
                send 0 2 0 -1 2 = 2; turn 0 = 2; send 0 2 3 -1 -1 = 3; send 0 1 2 -1 -1 = 4
                waiting 0 = 1; turn 0 = 3; waiting 0 = 2; place 3 = 2
                turn 1 = 0; what 3 4 = 2; which 3 4 = 0; next 0 0 = 4; next 0 1 = 3; waiting 0 = 0
                """);
        Script.run("6: a message that comes to wait at its own promise stays there", """
                cell 0 = 0; cell 1 = 1; introduce 0 0 0 = true; introduce 1 0 1 = true
                introduce 0 3 1 = true; send 0 3 0 -1 1 = 0
                send 0 1 0 -1 2 = 1; place 1 = 2
                send 0 0 9 2 3 = 2; turn 0 = 2; which 3 4 = 1; send 0 3 0 -1 3 = 3; turn 0 = 3; what 0 3 = 2
                introduce 1 0 3 = true; turn 1 = 0; place 1 = 1; next 0 0 = 1; turn 0 = 1
                place 1 = 2; waiting 1 = 1; result 1 = 3; value 1 = 1; queued 0 = 0
                """);
        Script.run("6: a facet for itself relays for ever, a turn at a time", """
                cell 0 = 0; introduce 0 0 0 = true
                send 0 0 1 -1 2 = 0; send 0 0 9 2 3 = 1; send 0 3 0 -1 1 = 2
                turn 0 = 0; result 0 = 3; value 0 = 2; turn 0 = 1; turn 0 = 2
                result 0 = 2; value 0 = 2; what 2 4 = 2; which 2 4 = 2
                send 0 2 7 -1 -1 = 3; turn 0 = 3; turn 0 = 3; place 3 = 1; queued 0 = 1
                """);
    }
}
