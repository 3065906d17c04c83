import java.util.ArrayList;
import java.util.List;

/**
 * A new object of the class with one object of each kind in it, and short words for what the tests of the boundary
 * cases do over and over: put a question to an object, and read what came of it.
 */
final class World {
    /** What goes with a question. */
    record Arg(String sort, int index) {
    }

    static final Arg NOTHING = new Arg("nothing", 0);
    static final Arg BROKEN = new Arg("broken", 0);
    static final Arg OPEN = new Arg("open", 0);

    private static final int TARGET = 0;
    private static final int ARGUMENT = 1;
    private static final int SCRATCH = 2;

    final CapabilityVats x = new CapabilityVats();
    /** In vat 0; its slots are used for each question. */
    final int asker = x.cell(0);
    /** In vat 1, with nothing in its slots; it makes the others, which are at home there too. */
    final int maker = x.cell(1);
    /** In vat 2, where no turn is taken: what it is asked for stays open. */
    final int sleeper = x.cell(2);
    final int gate;
    final int facet;
    final int brand;
    final int sealer;
    final int unsealer;
    final int box;
    final int mint;
    final int purse;
    final int membrane;
    final int wrapper;

    /** The facet and the wrapper are for the maker, the box has 60 in it, the purse has the balance 60. */
    World() {
        gate = make(maker, 9, object(maker));
        facet = make(gate, 0, NOTHING);
        brand = make(maker, 10, NOTHING);
        sealer = make(brand, 0, NOTHING);
        unsealer = make(brand, 1, NOTHING);
        box = make(sealer, 0, number(60));
        mint = make(maker, 11, NOTHING);
        purse = make(mint, 0, number(60));
        membrane = make(maker, 12, NOTHING);
        wrapper = make(membrane, 0, object(maker));
    }

    static Arg number(int number) {
        return new Arg("number", number);
    }

    static Arg object(int object) {
        return new Arg("object", object);
    }

    /** Every object but the cells. */
    int[] noCells() {
        return new int[] {gate, facet, brand, sealer, unsealer, box, mint, purse, membrane, wrapper};
    }

    /** Sends the question, and takes turns of the vats 0 and 1 until it is out of their queues: its number. */
    int ask(int object, int verb, Arg arg) {
        int message = post(object, verb, arg);
        for (int turns = 0; turns < 20 && x.place(message) == 1; turns++) {
            x.turn(0);
            x.turn(1);
        }
        return message;
    }

    /** Sends the question and takes no turn. */
    int post(int object, int verb, Arg arg) {
        put(arg);
        x.introduce(asker, TARGET, object);
        return x.send(asker, TARGET, verb, arg == NOTHING ? -1 : ARGUMENT, -1);
    }

    private void put(Arg arg) {
        switch (arg.sort()) {
            case "number" -> x.number(asker, ARGUMENT, arg.index());
            case "object" -> x.introduce(asker, ARGUMENT, arg.index());
            case "broken" -> {
                x.number(asker, SCRATCH, 0);
                x.send(asker, SCRATCH, 0, -1, ARGUMENT);
            }
            case "open" -> {
                x.introduce(asker, SCRATCH, sleeper);
                x.send(asker, SCRATCH, 0, -1, ARGUMENT);
            }
            default -> { }
        }
    }

    /** The answer of a question as a text: "number 5", "object 3", "open 2", "broken" or "refused". */
    String tell(int object, int verb, Arg arg) {
        return result(x, ask(object, verb, arg));
    }

    /** The number of the object that is the answer. */
    int make(int object, int verb, Arg arg) {
        return x.value(ask(object, verb, arg));
    }

    /** Cells until there are so many objects. */
    void fillTo(int objects) {
        for (int made = x.objects(); made < objects; made++) {
            x.cell(0);
        }
    }

    static String result(CapabilityVats x, int promise) {
        return text(x.result(promise), x.value(promise));
    }

    static String held(CapabilityVats x, int object, int slot) {
        return text(x.what(object, slot), x.which(object, slot));
    }

    private static String text(int sort, int index) {
        return switch (sort) {
            case 0 -> "nothing";
            case 1 -> "number " + index;
            case 2 -> "object " + index;
            case 3 -> "open " + index;
            case 4 -> "broken";
            default -> "refused";
        };
    }

    /** All that the host sees. */
    static String state(CapabilityVats x) {
        List<String> rows = new ArrayList<>();
        rows.add(objects(x, 0));
        for (int m = 0; m < x.messages(); m++) {
            rows.add("message " + m + " place " + x.place(m) + " is " + result(x, m) + " waiting " + x.waiting(m)
                    + " notes " + x.notes(m));
        }
        for (int vat = 0; vat < 3; vat++) {
            StringBuilder queue = new StringBuilder("queue " + vat + " of " + x.queued(vat) + ":");
            for (int k = 0; k < x.queued(vat); k++) {
                queue.append(' ').append(x.next(vat, k));
            }
            rows.add(queue.toString());
        }
        return String.join("\n", rows);
    }

    /** What the host sees of the objects but the asker, whose slots each question changes. */
    String others() {
        return objects(x, 1);
    }

    private static String objects(CapabilityVats x, int from) {
        List<String> rows = new ArrayList<>();
        for (int n = from; n < x.objects(); n++) {
            StringBuilder row = new StringBuilder("object " + n + " kind " + x.kind(n) + " home " + x.home(n)
                    + " detail " + x.detail(n, 0) + " " + x.detail(n, 1));
            for (int slot = 0; slot <= 4; slot++) {
                row.append(", ").append(held(x, n, slot));
            }
            rows.add(row.toString());
        }
        return String.join("\n", rows);
    }
}
