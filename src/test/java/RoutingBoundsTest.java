/** "Terms": where messages are routed, how promises are resolved, and what a turn does, each sentence at its edges. */
public final class RoutingBoundsTest {
    public static void main(String[] args) {
        targetIsObject();
        targetIsOpen();
        targetIsNone();
        resolvedToItself();
        resolvedToNothing();
        resolvedOnce();
        waitersGoOn();
        waitersBreak();
        countsAs();
        turns();
        relays();
        notUnderstood();
        Script.end();
    }

    private static void targetIsObject() {
        Script.run("ROUTING to an object: the end of the queue of its home, whoever sends", """
                cell 0 = 0; cell 1 = 1; cell 2 = 2; introduce 0 0 2 = true; introduce 1 0 2 = true; introduce 2 0 2 = true
                send 2 0 0 -1 -1 = 0; send 0 0 0 -1 -1 = 1; send 1 0 0 -1 -1 = 2
                queued 0 = 0; queued 1 = 0; queued 2 = 3; next 2 0 = 0; next 2 1 = 1; next 2 2 = 2
                """);
        Script.run("ROUTING to a resolved promise is routing to what it counts as", """
                cell 0 = 0; cell 1 = 1; introduce 0 0 0 = true; introduce 0 1 1 = true
                send 0 0 1 -1 2 = 0; turn 0 = 0; send 0 2 0 -1 -1 = 1
                place 1 = 1; queued 1 = 1; next 1 0 = 1; waiting 0 = 0
                """);
        Script.run("a message that is in a queue stays there, whatever comes into the slot that it was sent from", """
                cell 0 = 0; cell 1 = 1; number 1 0 6 = true; introduce 0 0 1 = true; send 0 0 0 -1 -1 = 0
                introduce 0 0 0 = true; next 1 0 = 0; queued 0 = 0; turn 1 = 0; result 0 = 1; value 0 = 6
                """);
    }

    private static void targetIsOpen() {
        Script.run("ROUTING to an open promise: it waits there, behind the others that do", """
                cell 0 = 0; cell 1 = 1; introduce 0 0 1 = true; introduce 1 0 0 = true; send 0 0 0 -1 1 = 0; waiting 0 = 0
                send 0 1 3 -1 -1 = 1; waiting 0 = 1; send 0 1 2 -1 -1 = 2; waiting 0 = 2; send 0 1 3 -1 -1 = 3; waiting 0 = 3
                place 1 = 2; place 2 = 2; place 3 = 2; queued 0 = 0; queued 1 = 1
                turn 1 = 0; waiting 0 = 0; next 0 0 = 1; next 0 1 = 2; next 0 2 = 3; queued 0 = 3
                """);
        Script.run("ROUTING to a promise that was resolved to an open one: it waits at that", """
                cell 0 = 0; cell 1 = 1; introduce 0 0 0 = true; introduce 0 1 1 = true
                send 0 1 0 -1 3 = 0; send 0 0 3 -1 2 = 1; turn 0 = 1; result 1 = 3; value 1 = 0
                send 0 2 0 -1 -1 = 2; waiting 1 = 0; waiting 0 = 1; place 2 = 2
                """);
    }

    private static void targetIsNone() {
        Script.run("ROUTING to a number: broken", """
                cell 0 = 0; number 0 0 0 = true; send 0 0 0 -1 1 = 0; place 0 = 0; result 0 = 4; queued 0 = 0
                """);
        Script.run("ROUTING to broken: broken", """
                cell 0 = 0; send 0 0 0 -1 0 = 0; what 0 0 = 4; send 0 0 0 -1 1 = 1; place 1 = 0; result 1 = 4; waiting 0 = 0
                """);
        Script.run("ROUTING to nothing: broken", """
                cell 0 = 0; send 0 3 0 -1 -1 = 0; place 0 = 0; result 0 = 4; value 0 = 0; notes 0 = 0; waiting 0 = 0
                """);
        Script.run("ROUTING to a promise that was resolved to a number: broken", """
                cell 0 = 0; introduce 0 0 0 = true; send 0 0 5 -1 2 = 0; turn 0 = 0; what 0 2 = 1
                send 0 2 0 -1 -1 = 1; place 1 = 0; result 1 = 4; waiting 0 = 0
                """);
    }

    private static void resolvedToItself() {
        Script.run("RESOLVING a promise to itself: broken", """
                cell 0 = 0; introduce 0 0 0 = true; send 0 0 3 -1 3 = 0; turn 0 = 0; result 0 = 4; place 0 = 0; what 0 3 = 4
                """);
        Script.run("RESOLVING to itself breaks those that wait there", """
                cell 0 = 0; introduce 0 0 0 = true; send 0 0 3 -1 3 = 0; send 0 3 0 -1 2 = 1; waiting 0 = 1
                turn 0 = 0; waiting 0 = 0; place 1 = 0; result 1 = 4; what 0 2 = 4
                """);
        Script.run("RESOLVING to one that counts as this promise: broken, and so is that one", """
                cell 0 = 0; introduce 0 0 0 = true; send 0 0 2 -1 1 = 0; send 0 0 3 -1 2 = 1; send 0 0 1 -1 3 = 2
                turn 0 = 0; value 0 = 1; turn 0 = 1; value 0 = 2; value 1 = 2; result 1 = 3
                turn 0 = 2; result 0 = 4; result 1 = 4; result 2 = 4; what 0 1 = 4; what 0 2 = 4; what 0 3 = 4
                """);
        Script.run("RESOLVING to a promise that is itself no more open: what that was resolved to", """
                cell 0 = 0; introduce 0 0 0 = true; number 0 1 4 = true; send 0 0 1 -1 2 = 0; turn 0 = 0
                send 0 0 2 -1 2 = 1; number 0 2 9 = true; turn 0 = 1; result 1 = 1; value 1 = 9
                """);
        String ring = """
                cell 0 = 0; cell 1 = 1; introduce 0 0 0 = true; introduce 0 1 1 = true
                send 0 0 3 -1 2 = 0; send 0 1 4 2 -1 = 1; send 0 1 0 -1 3 = 2
                """;
        Script.run("RESOLVING two promises to one another: the second is broken, and so the first", ring + """
                turn 0 = 0; result 0 = 3; value 0 = 2; turn 1 = 1; what 1 0 = 3; which 1 0 = 2
                turn 1 = 2; result 2 = 4; result 0 = 4; what 1 0 = 4
                """);
        Script.run("RESOLVING two promises to one another, the other one first", ring + """
                turn 1 = 1; turn 1 = 2; result 2 = 3; value 2 = 0; turn 0 = 0; result 0 = 4; result 2 = 4; what 1 0 = 4
                """);
    }

    private static void resolvedToNothing() {
        Script.run("RESOLVING to nothing: a cell's slot with nothing in it", """
                cell 0 = 0; introduce 0 0 0 = true; send 0 0 1 -1 -1 = 0; turn 0 = 0; result 0 = 4; place 0 = 0; value 0 = 0
                """);
        Script.run("RESOLVING to nothing: a membrane that wraps nothing", """
                cell 0 = 0; introduce 0 0 0 = true; send 0 0 12 -1 1 = 0; turn 0 = 0
                send 0 1 0 -1 2 = 1; turn 0 = 1; result 1 = 4; what 0 2 = 4; objects = 2
                send 0 1 0 3 2 = 2; turn 0 = 2; result 2 = 4; objects = 2
                """);
        Script.run("RESOLVING to nothing: a slot that a message has emptied", """
                cell 0 = 0; introduce 0 0 0 = true; number 0 1 5 = true; send 0 0 5 -1 -1 = 0; send 0 0 1 -1 -1 = 1
                turn 0 = 0; what 0 1 = 0; which 0 1 = 0; turn 0 = 1; result 1 = 4
                """);
    }

    private static void resolvedOnce() {
        Script.run("a promise is OPEN at first and RESOLVED once", """
                cell 0 = 0; cell 1 = 1; introduce 0 0 1 = true; number 1 0 5 = true
                send 0 0 0 -1 1 = 0; result 0 = 3; value 0 = 0; place 0 = 1; turn 1 = 0; result 0 = 1; value 0 = 5
                number 1 0 6 = true; result 0 = 1; value 0 = 5; what 0 1 = 1; which 0 1 = 5
                send 0 0 0 -1 2 = 1; turn 1 = 1; value 1 = 6; value 0 = 5
                """);
        Script.run("a promise may be resolved to 0, -1, the least and the greatest int", """
                cell 0 = 0; introduce 0 0 0 = true; number 0 1 -1 = true; number 0 2 -2147483648 = true
                number 0 3 2147483647 = true; send 0 0 1 -1 -1 = 0; send 0 0 2 -1 -1 = 1; send 0 0 3 -1 -1 = 2
                turn 0 = 0; turn 0 = 1; turn 0 = 2; result 0 = 1; value 0 = -1; result 1 = 1; value 1 = -2147483648
                result 2 = 1; value 2 = 2147483647
                """);
    }

    private static void waitersGoOn() {
        Script.run("resolved to an object: its waiters come in their order behind those that are in the queue", """
                cell 0 = 0; cell 1 = 1; cell 2 = 2; introduce 0 0 1 = true; introduce 0 1 2 = true; introduce 1 0 2 = true
                send 0 0 0 -1 2 = 0; send 0 2 1 -1 -1 = 1; send 0 1 0 -1 -1 = 2; send 0 2 2 -1 -1 = 3; send 0 1 0 -1 -1 = 4
                next 2 0 = 2; next 2 1 = 4; turn 1 = 0; queued 2 = 4
                next 2 0 = 2; next 2 1 = 4; next 2 2 = 1; next 2 3 = 3; place 1 = 1; place 3 = 1; waiting 0 = 0
                send 0 2 3 -1 -1 = 5; next 2 4 = 5
                """);
        Script.run("resolved to an object of the vat whose turn it is", """
                cell 0 = 0; introduce 0 0 0 = true; send 0 0 0 -1 1 = 0; send 0 1 1 -1 2 = 1; send 0 0 2 -1 -1 = 2
                turn 0 = 0; next 0 0 = 2; next 0 1 = 1; queued 0 = 2
                """);
        Script.run("resolved to an open promise: its waiters wait there, behind the others", """
                cell 0 = 0; cell 1 = 1; introduce 0 0 0 = true; introduce 0 1 1 = true; introduce 1 0 0 = true
                send 0 1 0 -1 3 = 0; send 0 0 3 -1 2 = 1; send 0 2 1 -1 -1 = 2; send 0 3 1 -1 -1 = 3; send 0 2 2 -1 -1 = 4
                waiting 0 = 1; waiting 1 = 2; turn 0 = 1; waiting 0 = 3; waiting 1 = 0; place 2 = 2; place 4 = 2
                turn 1 = 0; next 0 0 = 3; next 0 1 = 2; next 0 2 = 4; waiting 0 = 0
                """);
        Script.run("a waiter is still asked with the argument that it had", """
                cell 0 = 0; cell 1 = 1; cell 2 = 2; introduce 0 0 1 = true; introduce 1 0 2 = true; number 0 3 8 = true
                send 0 0 0 -1 1 = 0; send 0 1 4 3 -1 = 1; number 0 3 9 = true; turn 1 = 0; turn 2 = 1; which 2 0 = 8
                """);
    }

    private static void waitersBreak() {
        Script.run("resolved to a number: its waiters are broken", """
                cell 0 = 0; introduce 0 0 0 = true; number 0 1 5 = true; send 0 0 1 -1 2 = 0; send 0 2 0 -1 3 = 1
                send 0 3 0 -1 -1 = 2; send 0 2 0 -1 -1 = 3
                turn 0 = 0; result 0 = 1; place 1 = 0; result 1 = 4; place 2 = 0; result 2 = 4; place 3 = 0; result 3 = 4
                waiting 0 = 0; waiting 1 = 0; queued 0 = 0
                """);
        Script.run("resolved to broken: its waiters are broken", """
                cell 0 = 0; introduce 0 0 0 = true; send 0 0 15 -1 2 = 0; send 0 2 0 -1 3 = 1; send 0 3 0 -1 -1 = 2
                turn 0 = 0; result 0 = 4; place 1 = 0; result 1 = 4; place 2 = 0; result 2 = 4; queued 0 = 0
                """);
        Script.run("broken in the routing of a send: none waits there yet, and none comes to", """
                cell 0 = 0; send 0 0 0 -1 1 = 0; waiting 0 = 0; send 0 1 0 -1 2 = 1; waiting 0 = 0; waiting 1 = 0
                place 0 = 0; place 1 = 0
                """);
    }

    private static void countsAs() {
        Script.run("a reference COUNTS AS what its promise is resolved to, and so on, in every place", """
                cell 0 = 0; cell 1 = 1; introduce 0 0 0 = true; introduce 0 1 1 = true; number 1 0 7 = true
                send 0 1 0 -1 3 = 0; send 0 0 3 -1 2 = 1; send 0 0 9 2 -1 = 2; send 0 1 7 2 -1 = 3
                turn 0 = 1; turn 0 = 2; kind 3 = 2; what 3 4 = 3; which 3 4 = 0; what 0 2 = 3; which 0 2 = 0
                turn 1 = 0; what 3 4 = 1; which 3 4 = 7; what 0 2 = 1; which 0 2 = 7; what 0 3 = 1; result 1 = 1; value 1 = 7
                turn 1 = 3; what 1 3 = 1; which 1 3 = 7
                """);
        Script.run("what is said of a reference means what it counts as at the time of the turn", """
                cell 0 = 0; cell 1 = 1; introduce 0 0 0 = true; introduce 0 1 1 = true; number 1 0 7 = true
                send 0 0 11 -1 2 = 0; turn 0 = 0; send 0 1 0 -1 3 = 1; send 0 2 0 3 -1 = 2; send 0 2 0 3 -1 = 3
                turn 0 = 2; result 2 = 4; turn 1 = 1; turn 0 = 3; result 3 = 2; detail 3 0 = 7
                """);
    }

    private static void turns() {
        Script.run("a TURN takes out one message, the first", """
                cell 0 = 0; introduce 0 0 0 = true; send 0 0 8 -1 -1 = 0; send 0 0 8 -1 -1 = 1; send 0 0 8 -1 -1 = 2
                turn 0 = 0; queued 0 = 2; next 0 0 = 1; objects = 2; place 0 = 0; place 1 = 1; place 2 = 1
                turn 0 = 1; turn 0 = 2; objects = 4; queued 0 = 0; turn 0 = -3
                """);
        Script.run("what a turn does in one vat, the others don't see before their own", """
                cell 0 = 0; cell 1 = 1; introduce 0 0 0 = true; introduce 0 1 1 = true
                send 0 0 8 -1 -1 = 0; send 0 1 8 -1 -1 = 1; turn 1 = 1; objects = 3; home 2 = 1; place 0 = 1; queued 0 = 1
                turn 0 = 0; home 3 = 0
                """);
    }

    private static void relays() {
        World w = new World();
        int message = w.post(w.facet, 8, World.NOTHING);
        int behind = w.post(w.maker, 8, World.NOTHING);
        Script.due("RELAYING: a turn of the facet's vat", w.x.turn(1), message);
        Script.due("RELAYING: it is routed again, to the end of the queue", w.x.next(1, 0) + " " + w.x.next(1, 1), behind + " " + message);
        Script.due("RELAYING: it is not answered yet", w.x.place(message) + World.result(w.x, message), "1open " + message);
        Script.due("RELAYING: no new message", w.x.messages(), behind + 1);
        Script.due("RELAYING: a facet's leaves no note", w.x.notes(message), 0);
        w.x.turn(1);
        Script.due("RELAYING: the target answers in a turn of its own", w.x.turn(1) + World.result(w.x, message), message + "object 14");
    }

    /** Another verb than those named is answered with broken, and changes nothing. */
    private static void notUnderstood() {
        World all = new World();
        int[] kinds = {all.maker, all.gate, all.brand, all.sealer, all.unsealer, all.box, all.mint, all.purse, all.membrane};
        int[] firstOther = {13, 3, 2, 1, 1, 0, 1, 4, 3};
        for (int i = 0; i < kinds.length; i++) {
            for (int verb = firstOther[i]; verb <= 15; verb++) {
                World w = new World();
                String before = w.others();
                String call = "kind " + w.x.kind(kinds[i]) + " doesn't understand " + verb;
                Script.due(call, w.tell(kinds[i], verb, World.number(1)), "broken");
                Script.due(call + " with a purse", w.tell(kinds[i], verb, World.object(w.purse)), "broken");
                Script.due(call + " with nothing", w.tell(kinds[i], verb, World.NOTHING), "broken");
                Script.due(call + ": nothing has changed", w.others(), before);
            }
        }
    }
}
