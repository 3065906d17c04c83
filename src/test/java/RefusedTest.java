import java.util.ArrayList;
import java.util.List;

/**
 * "A call whose vat, object, slot, verb, message or promise is not there is refused; a refused call changes nothing.":
 * every refused call leaves what the host sees as it was, and what comes after it as it would have been.
 */
public final class RefusedTest {
    private static final int[] NO_OBJECT = {Integer.MIN_VALUE, -2, -1, 40, 41, Integer.MAX_VALUE};
    private static final int[] NO_SLOT = {Integer.MIN_VALUE, -2, 4, 5, 40, Integer.MAX_VALUE};
    private static final int[] NO_VAT = {Integer.MIN_VALUE, -1, 3, 4, Integer.MAX_VALUE};
    private static final int[] NO_VERB = {Integer.MIN_VALUE, -1, 16, 17, Integer.MAX_VALUE};
    private static final int[] NO_MESSAGE = {Integer.MIN_VALUE, -1, 200, 201, Integer.MAX_VALUE};

    public static void main(String[] args) {
        leavesTheState("a busy one", busy());
        leavesTheState("a new one", new CapabilityVats());
        World full = new World();
        full.fillTo(40);
        leavesTheState("one with 40 objects", full.x);
        for (int sent = full.x.messages(); sent < 200; sent++) {
            full.post(full.maker, 0, World.NOTHING);
        }
        leavesTheState("one with 40 objects and 200 messages", full.x);
        fullLeavesTheState(full.x);
        leavesTheFuture();
        viewsLeaveTheState();
        Script.end();
    }

    /** One of each kind, messages in every queue and waiting, notes taken, a gate revoked. */
    private static CapabilityVats busy() {
        World w = new World();
        w.ask(w.gate, 1, World.NOTHING);
        w.ask(w.make(w.membrane, 0, World.OPEN), 0, World.object(w.box));
        w.post(w.wrapper, 4, World.OPEN);
        w.post(w.asker, 5, World.object(w.purse));
        w.post(w.wrapper, 8, World.NOTHING);
        w.x.turn(1);
        int waiting = 0;
        int noted = 0;
        for (int message = 0; message < w.x.messages(); message++) {
            waiting += w.x.waiting(message);
            noted += w.x.notes(message);
        }
        boolean isBusy = w.x.queued(0) > 0 && w.x.queued(1) > 0 && w.x.queued(2) > 0 && waiting > 0 && noted > 1;
        Script.due("the busy one is busy", isBusy, true);
        return w.x;
    }

    private static void fullLeavesTheState(CapabilityVats x) {
        String before = World.state(x);
        for (int vat = 0; vat <= 2; vat++) {
            Script.due("FULL: cell " + vat, x.cell(vat), CapabilityVats.FULL);
        }
        for (int slot = 0; slot <= 3; slot++) {
            Script.due("FULL: send with slot " + slot, x.send(0, slot, 8, slot, slot), CapabilityVats.FULL);
        }
        Script.due("FULL changes nothing", World.state(x), before);
    }

    private static void leavesTheState(String title, CapabilityVats x) {
        String before = World.state(x);
        for (String[] call : refused(x)) {
            String text = title + ": " + String.join(" ", call);
            String answer = Script.answer(x, call);
            Script.due(text + " is refused", answer.equals("-1") || answer.equals("false"), true);
            Script.due(text + " changes nothing", World.state(x), before);
        }
    }

    private static List<String[]> refused(CapabilityVats x) {
        List<String[]> calls = new ArrayList<>();
        for (int vat : NO_VAT) {
            add(calls, "cell", vat);
            add(calls, "turn", vat);
        }
        for (int object : NO_OBJECT) {
            add(calls, "number", object, 0, 1);
            add(calls, "introduce", object, 0, 0);
            add(calls, "introduce", 0, 0, object);
            add(calls, "send", object, 0, 8, -1, -1);
        }
        for (int object = 0; object < x.objects(); object++) {
            if (x.kind(object) != 0) {
                add(calls, "number", object, 0, 1);
                add(calls, "introduce", object, 0, 0);
                add(calls, "send", object, 0, 8, -1, -1);
            }
        }
        for (int slot : NO_SLOT) {
            add(calls, "number", 0, slot, 1);
            add(calls, "introduce", 0, slot, 0);
            add(calls, "send", 0, slot, 8, -1, -1);
            add(calls, "send", 0, 0, 8, slot, 3);
            add(calls, "send", 0, 0, 8, 3, slot);
        }
        add(calls, "number", 0, -1, 1);
        add(calls, "introduce", 0, -1, 0);
        add(calls, "send", 0, -1, 8, -1, 3);
        for (int verb : NO_VERB) {
            add(calls, "send", 0, 0, verb, 0, 3);
        }
        for (int message : NO_MESSAGE) {
            add(calls, "place", message);
            add(calls, "result", message);
            add(calls, "waiting", message);
            add(calls, "notes", message);
        }
        return calls;
    }

    private static void add(List<String[]> calls, String name, int... arguments) {
        String[] call = new String[arguments.length + 1];
        call[0] = name;
        for (int i = 0; i < arguments.length; i++) {
            call[i + 1] = String.valueOf(arguments[i]);
        }
        calls.add(call);
    }

    /** Two objects do the same; one is also called amiss before each step. */
    private static void leavesTheFuture() {
        CapabilityVats left = busy();
        CapabilityVats disturbed = busy();
        for (int step = 0; step < 24; step++) {
            for (String[] call : refused(disturbed)) {
                Script.answer(disturbed, call);
            }
            String one = step(left, step);
            Script.due("step " + step + " answers as if none had been refused", step(disturbed, step), one);
            Script.due("step " + step + " does as if none had been refused", World.state(disturbed), World.state(left));
        }
    }

    private static String step(CapabilityVats x, int step) {
        switch (step % 6) {
            case 0:
                return "send " + x.send(0, 0, step % 16, 1, 2);
            case 1:
                return "introduce " + x.introduce(0, step % 4, step % x.objects());
            case 4:
                return "cell " + x.cell(step % 3);
            default:
                return "turn " + x.turn(step % 3);
        }
    }

    private static void viewsLeaveTheState() {
        CapabilityVats seen = busy();
        CapabilityVats unseen = busy();
        World.state(seen);
        for (int wrong : NO_OBJECT) {
            seen.kind(wrong);
            seen.home(wrong);
            seen.what(wrong, wrong);
            seen.which(0, wrong);
            seen.detail(wrong, 0);
            seen.detail(0, wrong);
            seen.value(wrong);
            seen.queued(wrong);
            seen.next(wrong, 0);
            seen.next(0, wrong);
        }
        for (int turns = 0; turns < 12; turns++) {
            World.state(seen);
            Script.due("what is looked at answers the same", seen.turn(turns % 3), unseen.turn(turns % 3));
        }
        Script.due("what is looked at stays the same", World.state(seen), World.state(unseen));
    }
}
