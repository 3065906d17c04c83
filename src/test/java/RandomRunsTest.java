import java.util.Random;

/**
 * All promises: long runs of calls drawn from fixed seeds, each answer compared with PlainVats's, and after every
 * sixteenth call the whole state that the host sees.
 */
public final class RandomRunsTest {
    private static final int RUNS = 1500;
    private static final int[] ODD = {-2147483648, -2, -1, 0, 1, 2, 3, 4, 5, 8, 15, 16, 39, 40, 199, 200, 2147483647};
    private static final int[] ofKind = new int[11];
    private static final int[] withNotes = new int[9];
    private static final int[] resolvedTo = new int[5];

    public static void main(String[] args) {
        for (int seed = 0; seed < RUNS; seed++) {
            run(seed);
        }
        reached("kind", ofKind, 0);
        reached("number of notes", withNotes, 0);
        reached("result", resolvedTo, 1);
        Script.end();
    }

    /** A generator that reaches little would pass without testing much. */
    private static void reached(String name, int[] counts, int from) {
        for (int i = from; i < counts.length; i++) {
            Script.due(name + " " + i + " was reached", counts[i] > 0, true);
        }
    }

    private static void run(int seed) {
        Random random = new Random(seed);
        CapabilityVats x = new CapabilityVats();
        PlainVats plain = new PlainVats();
        int cells = 1 + random.nextInt(5);
        // Some runs make few objects by hand and so come late to the limit, others keep close to it.
        int makes = seed % 3 == 0 ? 12 : 1;
        for (int call = 0; call < 512; call++) {
            String at = "seed " + seed + " call " + call + " ";
            if (call < cells) {
                compare(at, x, plain, "cell", random.nextInt(3));
            } else {
                step(at, x, plain, random, makes);
            }
            if (call % 16 == 15 || call == 511) {
                compareAll(at, x, plain);
            }
        }
        for (int message = 0; message < x.messages(); message++) {
            resolvedTo[x.result(message)]++;
            withNotes[x.notes(message)]++;
        }
        for (int object = 0; object < x.objects(); object++) {
            ofKind[x.kind(object)]++;
        }
    }

    private static void step(String at, CapabilityVats x, PlainVats plain, Random random, int makes) {
        int cell = random.nextInt(Math.min(6, x.objects()));
        int dice = random.nextInt(100);
        if (dice < makes) {
            compare(at, x, plain, "cell", random.nextInt(3));
        } else if (dice < 16) {
            compare(at, x, plain, "number", cell, random.nextInt(4), random.nextInt(4) * random.nextInt(600000));
        } else if (dice < 30) {
            compare(at, x, plain, "introduce", cell, random.nextInt(4), random.nextInt(x.objects()));
        } else if (dice < 62) {
            int target = likelyTarget(x, cell, random);
            int verb = likelyVerb(x, cell, target, random);
            compare(at, x, plain, "send", cell, target, verb, random.nextInt(5) - 1, random.nextInt(5) - 1);
        } else if (dice < 97) {
            compare(at, x, plain, "turn", random.nextInt(3));
        } else {
            oddCall(at, x, plain, random);
        }
    }

    /** Mostly a slot with an object or an open promise in it: the others break at once. */
    private static int likelyTarget(CapabilityVats x, int cell, Random random) {
        int target = random.nextInt(4);
        for (int tried = 0; tried < 4 && x.what(cell, target) != 2 && x.what(cell, target) != 3; tried++) {
            target = random.nextInt(4);
        }
        return target;
    }

    /** Mostly a verb that the target understands, and of a cell's those rarely that use up the objects. */
    private static int likelyVerb(CapabilityVats x, int cell, int target, Random random) {
        boolean toCell = x.what(cell, target) == 2 && x.kind(x.which(cell, target)) == 0;
        if (random.nextInt(12) == 0) {
            return random.nextInt(16);
        }
        if (!toCell) {
            return random.nextInt(3) == 0 ? random.nextInt(4) : 0;
        }
        int dice = random.nextInt(10);
        return dice < 4 ? random.nextInt(8) : dice < 7 ? 12 : 8 + random.nextInt(5);
    }

    private static void oddCall(String at, CapabilityVats x, PlainVats plain, Random random) {
        String[] names = {"cell", "number", "introduce", "send", "turn", "kind", "home", "what", "which", "detail",
                "place", "result", "value", "queued", "next", "waiting", "notes"};
        int[] counts = {1, 3, 3, 5, 1, 1, 1, 2, 2, 2, 1, 1, 1, 1, 2, 1, 1};
        int drawn = random.nextInt(names.length);
        int[] arguments = new int[counts[drawn]];
        for (int i = 0; i < arguments.length; i++) {
            arguments[i] = ODD[random.nextInt(ODD.length)];
        }
        compare(at, x, plain, names[drawn], arguments);
    }

    private static void compareAll(String at, CapabilityVats x, PlainVats plain) {
        compare(at, x, plain, "objects");
        compare(at, x, plain, "messages");
        for (int object = -1; object <= plain.things.size(); object++) {
            compare(at, x, plain, "kind", object);
            compare(at, x, plain, "home", object);
            for (int slot = -1; slot <= 5; slot++) {
                compare(at, x, plain, "what", object, slot);
                compare(at, x, plain, "which", object, slot);
                compare(at, x, plain, "detail", object, slot);
            }
        }
        for (int message = -1; message <= plain.messages.size(); message++) {
            for (String name : new String[] {"place", "result", "value", "waiting", "notes"}) {
                compare(at, x, plain, name, message);
            }
        }
        for (int vat = -1; vat <= 3; vat++) {
            compare(at, x, plain, "queued", vat);
            int length = Math.max(0, plain.call("queued", vat));
            for (int k = -1; k <= length; k++) {
                compare(at, x, plain, "next", vat, k);
            }
        }
    }

    private static void compare(String at, CapabilityVats x, PlainVats plain, String name, int... a) {
        int want = plain.call(name, a);
        int got = call(x, name, a);
        if (got != want) {
            Script.due(at + name + java.util.Arrays.toString(a), got, want);
        }
    }

    private static int call(CapabilityVats x, String name, int[] a) {
        return switch (name) {
            case "cell" -> x.cell(a[0]);
            case "number" -> x.number(a[0], a[1], a[2]) ? 1 : 0;
            case "introduce" -> x.introduce(a[0], a[1], a[2]) ? 1 : 0;
            case "send" -> x.send(a[0], a[1], a[2], a[3], a[4]);
            case "turn" -> x.turn(a[0]);
            case "objects" -> x.objects();
            case "kind" -> x.kind(a[0]);
            case "home" -> x.home(a[0]);
            case "what" -> x.what(a[0], a[1]);
            case "which" -> x.which(a[0], a[1]);
            case "detail" -> x.detail(a[0], a[1]);
            case "messages" -> x.messages();
            case "place" -> x.place(a[0]);
            case "result" -> x.result(a[0]);
            case "value" -> x.value(a[0]);
            case "queued" -> x.queued(a[0]);
            case "next" -> x.next(a[0], a[1]);
            case "waiting" -> x.waiting(a[0]);
            case "notes" -> x.notes(a[0]);
            default -> throw new IllegalArgumentException(name);
        };
    }
}
