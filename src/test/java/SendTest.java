/** Promise 5, with 13, 14, 17, 18 and 19: sending, and where a message goes. */
public final class SendTest {
    public static void main(String[] args) {
        queues();
        taken();
        waits();
        refused();
        limit();
        Script.end();
    }

    private static void queues() {
        Script.run("5: to the end of the queue of the target's home", """
                cell 0 = 0; cell 1 = 1; cell 2 = 2; cell 1 = 3
                introduce 0 0 1 = true; introduce 0 1 2 = true; introduce 0 2 3 = true
                send 0 0 0 -1 -1 = 0; send 0 1 0 -1 -1 = 1; send 0 2 0 -1 -1 = 2; send 0 0 15 -1 -1 = 3
                messages = 4; queued 0 = 0; queued 1 = 3; queued 2 = 1
                next 1 0 = 0; next 1 1 = 2; next 1 2 = 3; next 1 3 = -3; next 2 0 = 1; next 2 1 = -3
                next 0 0 = -3; next 1 -1 = -3; next 3 0 = -3; next -1 0 = -3; next 1 2147483647 = -3
                queued 3 = -1; queued -1 = -1
                place 0 = 1; place 3 = 1; place 4 = -1; place -1 = -1
                result 0 = 3; value 0 = 0; result 3 = 3; value 3 = 3
                turn 1 = 0; next 1 0 = 2; next 1 1 = 3; next 1 2 = -3; queued 1 = 2; place 0 = 0
                what 0 3 = 0
                """);
    }

    private static void taken() {
        Script.run("5: target and argument are taken before the promise is put", """
                cell 0 = 0; introduce 0 0 0 = true; number 0 1 8 = true
                send 0 0 7 0 0 = 0; what 0 0 = 3; which 0 0 = 0; turn 0 = 0
                what 0 3 = 2; which 0 3 = 0; what 0 0 = 1; which 0 0 = 0
                send 0 3 6 1 1 = 1; what 0 1 = 3; which 0 1 = 1; turn 0 = 1
                what 0 2 = 1; which 0 2 = 8; what 0 1 = 1; which 0 1 = 0
                """);
        Script.run("5: a target of nothing, a number or broken breaks the promise", """
                cell 0 = 0; number 0 1 7 = true
                send 0 0 0 -1 2 = 0; result 0 = 4; value 0 = 0; place 0 = 0; what 0 2 = 4; which 0 2 = 0
                send 0 1 0 -1 3 = 1; result 1 = 4; place 1 = 0; what 0 3 = 4
                send 0 2 0 -1 0 = 2; result 2 = 4; place 2 = 0; what 0 0 = 4
                queued 0 = 0; messages = 3; waiting 0 = 0
                """);
        Script.run("5: an argument slot of nothing is no argument", """
                cell 0 = 0; introduce 0 0 0 = true; number 0 2 3 = true
                send 0 0 6 3 -1 = 0; turn 0 = 0; what 0 2 = 0
                number 0 2 3 = true; send 0 0 6 -1 -1 = 1; turn 0 = 1; what 0 2 = 0
                """);
    }

    private static void waits() {
        Script.run("5: messages wait at an open promise, one behind the other", """
                cell 0 = 0; cell 1 = 1; cell 2 = 2
                introduce 0 0 1 = true; introduce 1 0 2 = true
                send 0 0 0 -1 1 = 0; send 0 1 4 -1 -1 = 1; send 0 1 5 -1 2 = 2; send 0 2 0 -1 -1 = 3
                waiting 0 = 2; waiting 1 = 0; waiting 2 = 1; waiting 3 = 0; waiting 4 = -1; waiting -1 = -1
                place 0 = 1; place 1 = 2; place 2 = 2; place 3 = 2; queued 2 = 0
                turn 1 = 0; waiting 0 = 0; queued 2 = 2; next 2 0 = 1; next 2 1 = 2
                place 0 = 0; place 1 = 1; place 2 = 1; place 3 = 2; waiting 2 = 1
                result 0 = 2; value 0 = 2
                turn 2 = 1; turn 2 = 2; result 2 = 1; value 2 = 0; place 3 = 0; result 3 = 4; waiting 2 = 0
                """);
    }

    private static void refused() {
        Script.run("5: what is not as said is refused and changes nothing", """
                cell 0 = 0; introduce 0 0 0 = true; send 0 0 11 -1 1 = 0; turn 0 = 0; kind 1 = 7
                send 1 0 0 -1 -1 = -1; send 2 0 0 -1 -1 = -1; send -1 0 0 -1 -1 = -1
                send 0 -1 0 -1 -1 = -1; send 0 4 0 -1 -1 = -1
                send 0 0 -1 -1 -1 = -1; send 0 0 16 -1 -1 = -1
                send 0 0 0 -2 -1 = -1; send 0 0 0 4 -1 = -1
                send 0 0 0 -1 -2 = -1; send 0 0 0 -1 4 = -1
                messages = 1; queued 0 = 0; what 0 0 = 2; what 0 1 = 2; what 0 2 = 0; what 0 3 = 0
                send 0 0 15 3 3 = 1; messages = 2; what 0 3 = 3
                """);
    }

    private static void limit() {
        CapabilityVats x = Script.run("5: 200 messages", "cell 0 = 0; introduce 0 0 0 = true; number 0 3 6 = true");
        for (int sent = 0; sent < 200; sent++) {
            Script.more(x, "5: up to 200", "send 0 0 0 -1 " + (sent == 0 ? 1 : -1) + " = " + sent);
        }
        Script.more(x, "5: no more than 200", """
                messages = 200; queued 0 = 200; next 0 199 = 199; next 0 200 = -3
                send 0 0 0 -1 2 = -2; send 0 2 0 -1 2 = -2; send 0 0 16 -1 -1 = -1; send 1 0 0 -1 -1 = -1
                messages = 200; queued 0 = 200; what 0 2 = 0
                turn 0 = 0; send 0 0 0 -1 2 = -2; place 199 = 1; place 200 = -1; result 200 = -1; notes 200 = -1
                """);
    }
}
