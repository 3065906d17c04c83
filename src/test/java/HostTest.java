/** Promises 1 to 4, 7 to 9: a new object, and what the host makes and puts into slots. */
public final class HostTest {
    public static void main(String[] args) {
        newObject();
        cell();
        number();
        introduce();
        Script.end();
    }

    private static void newObject() {
        Script.run("1: a new object has nothing", """
                objects = 0; messages = 0
                queued 0 = 0; queued 1 = 0; queued 2 = 0
                turn 0 = -3; turn 1 = -3; turn 2 = -3
                next 0 0 = -3; kind 0 = -1; home 0 = -1; what 0 0 = -1; which 0 0 = 0; detail 0 0 = -1
                place 0 = -1; result 0 = -1; value 0 = 0; waiting 0 = -1; notes 0 = -1
                """);
    }

    private static void cell() {
        CapabilityVats x = Script.run("2: cells are numbered in their order", """
                cell 2 = 0; cell 0 = 1; cell 1 = 2; cell 3 = -1; cell -1 = -1
                cell 2147483647 = -1; cell -2147483648 = -1
                objects = 3; kind 0 = 0; kind 1 = 0; kind 2 = 0; kind 3 = -1; kind -1 = -1
                home 0 = 2; home 1 = 0; home 2 = 1; home 3 = -1; home -1 = -1
                what 0 0 = 0; what 0 1 = 0; what 0 2 = 0; what 0 3 = 0; which 0 3 = 0
                """);
        for (int made = 3; made < 40; made++) {
            Script.more(x, "2: up to 40", "cell 1 = " + made);
        }
        Script.more(x, "2: no more than 40", """
                cell 0 = -2; cell 2 = -2; cell 3 = -1; cell -1 = -1; objects = 40
                kind 39 = 0; home 39 = 1; kind 40 = -1; home 40 = -1
                """);
    }

    private static void number() {
        Script.run("3: a number in a slot", """
                number 0 0 1 = false; cell 0 = 0; cell 1 = 1
                number 0 0 5 = true; number 0 3 -2147483648 = true; number 1 0 2147483647 = true
                what 0 0 = 1; which 0 0 = 5; what 0 3 = 1; which 0 3 = -2147483648; which 1 0 = 2147483647
                number 0 0 0 = true; what 0 0 = 1; which 0 0 = 0
                what 0 1 = 0; what 1 3 = 0
                number 0 4 1 = false; number 0 -1 1 = false; number 2 0 1 = false; number -1 0 1 = false
                which 0 0 = 0; what 0 1 = 0; what 0 2 = 0
                """);
        Script.run("3: no number into what is no cell", """
                cell 0 = 0; introduce 0 0 0 = true; send 0 0 10 -1 -1 = 0; turn 0 = 0
                kind 1 = 3; number 1 0 4 = false; introduce 1 0 0 = false
                """);
    }

    private static void introduce() {
        Script.run("4: an object in a slot", """
                introduce 0 0 0 = false; cell 0 = 0; cell 1 = 1
                introduce 0 0 0 = true; introduce 0 3 1 = true; introduce 1 1 0 = true
                what 0 0 = 2; which 0 0 = 0; what 0 3 = 2; which 0 3 = 1; what 1 1 = 2; which 1 1 = 0
                introduce 0 0 1 = true; which 0 0 = 1; number 0 0 1 = true; what 0 0 = 1
                introduce 0 4 1 = false; introduce 0 -1 1 = false; introduce 2 0 0 = false
                introduce -1 0 0 = false; introduce 0 1 2 = false; introduce 0 1 -1 = false
                what 0 1 = 0; what 0 0 = 1
                """);
    }
}
