/** Promises 7 to 20: each view at its first and last number, just beyond, and in each case that its sentence names. */
public final class ViewBoundsTest {
    private static final int LEAST = Integer.MIN_VALUE;
    private static final int MOST = Integer.MAX_VALUE;
    private static final int BAD = CapabilityVats.BAD;
    private static final int NONE = CapabilityVats.NONE;

    public static void main(String[] args) {
        objects();
        kindAndHome();
        whatOfCells();
        whatOfOthers();
        which();
        detailParts();
        detailOfKinds();
        messages();
        place();
        resultAndValue();
        queuedAndNext();
        longQueue();
        waiting();
        notes();
        Script.end();
    }

    private static void objects() {
        CapabilityVats x = new CapabilityVats();
        Script.due("7: none at first", x.objects(), 0);
        x.cell(3);
        Script.due("7: none for a refused call", x.objects(), 0);
        x.cell(0);
        Script.due("7: one", x.objects(), 1);
        World w = new World();
        Script.due("7: those that messages made, too", w.x.objects(), 13);
        w.tell(w.maker, 9, World.NOTHING);
        Script.due("7: a gate comes with a facet", w.x.objects(), 15);
        w.fillTo(40);
        w.x.cell(0);
        Script.due("7: 40 at most", w.x.objects(), 40);
    }

    private static void kindAndHome() {
        World w = new World();
        w.fillTo(39);
        Script.due("8: BAD for the next that is to be made", w.x.kind(39), BAD);
        Script.due("9: BAD for the next that is to be made", w.x.home(39), BAD);
        w.x.cell(2);
        Script.due("8: the last of 40", w.x.kind(39), 0);
        Script.due("9: the last of 40", w.x.home(39), 2);
        Script.due("8: the first", w.x.kind(0), 0);
        Script.due("9: the first", w.x.home(0), 0);
        for (int object : new int[] {LEAST, -1, 40, 41, MOST}) {
            Script.due("8: BAD when there is none, " + object, w.x.kind(object), BAD);
            Script.due("9: BAD when there is none, " + object, w.x.home(object), BAD);
        }
        int[] kinds = {1, 2, 3, 4, 5, 6, 7, 8, 9, 10};
        for (int i = 0; i < kinds.length; i++) {
            Script.due("8: kind " + kinds[i], w.x.kind(w.noCells()[i]), kinds[i]);
            Script.due("9: home of kind " + kinds[i], w.x.home(w.noCells()[i]), 1);
        }
    }

    private static void whatOfCells() {
        World w = new World();
        Script.due("10: 0 nothing", w.x.what(w.maker, 0), 0);
        w.ask(w.maker, 4, World.number(0));
        Script.due("10: 1 a number", w.x.what(w.maker, 0), 1);
        w.ask(w.maker, 5, World.object(0));
        Script.due("10: 2 an object", w.x.what(w.maker, 1), 2);
        w.ask(w.maker, 6, World.OPEN);
        Script.due("10: 3 an open promise", w.x.what(w.maker, 2), 3);
        w.ask(w.maker, 7, World.BROKEN);
        Script.due("10: 4 broken", w.x.what(w.maker, 3), 4);
        for (int slot : new int[] {LEAST, -2, -1, 4, 5, MOST}) {
            Script.due("10: BAD, a cell has no slot " + slot, w.x.what(w.maker, slot), BAD);
            Script.due("11: 0, a cell has no slot " + slot, w.x.which(w.maker, slot), 0);
        }
        for (int object : new int[] {LEAST, -1, w.x.objects(), 40, MOST}) {
            Script.due("10: BAD when there is no such object as " + object, w.x.what(object, 0), BAD);
            Script.due("10: BAD, nor with slot 4", w.x.what(object, 4), BAD);
            Script.due("11: 0 when there is no such object as " + object, w.x.which(object, 0), 0);
            Script.due("11: 0, nor with slot 4", w.x.which(object, 4), 0);
        }
    }

    private static void whatOfOthers() {
        World w = new World();
        for (int object : new int[] {w.gate, w.brand, w.sealer, w.unsealer, w.mint, w.purse, w.membrane}) {
            for (int slot = -1; slot <= 5; slot++) {
                Script.due("10: BAD, kind " + w.x.kind(object) + " has none, slot " + slot, w.x.what(object, slot), BAD);
                Script.due("11: 0, kind " + w.x.kind(object) + " has none, slot " + slot, w.x.which(object, slot), 0);
            }
        }
        for (int object : new int[] {w.facet, w.wrapper, w.box}) {
            for (int slot : new int[] {LEAST, -4, -1, 0, 1, 2, 3, 5, 8, MOST}) {
                Script.due("10: BAD, kind " + w.x.kind(object) + " has 4 alone, not " + slot, w.x.what(object, slot), BAD);
                Script.due("11: 0, kind " + w.x.kind(object) + " has 4 alone, not " + slot, w.x.which(object, slot), 0);
            }
        }
        Script.due("10: slot 4, the target of a facet", World.held(w.x, w.facet, 4), "object " + w.maker);
        Script.due("10: slot 4, the target of a wrapper", World.held(w.x, w.wrapper, 4), "object " + w.maker);
        Script.due("10: slot 4, what is in a box", World.held(w.x, w.box, 4), "number 60");
        World.Arg[] args = {World.NOTHING, World.number(-7), World.object(w.purse), World.OPEN, World.BROKEN};
        for (int sort = 0; sort <= 4; sort++) {
            int facet = w.make(w.make(w.maker, 9, args[sort]), 0, World.NOTHING);
            Script.due("10: a facet for " + args[sort].sort(), w.x.what(facet, 4), sort);
            Script.due("10: a box with " + args[sort].sort(), w.x.what(w.make(w.sealer, 0, args[sort]), 4), sort);
        }
    }

    private static void which() {
        for (int number : new int[] {LEAST, -3, -1, 0, MOST}) {
            World w = new World();
            w.x.number(w.maker, 3, number);
            Script.due("11: the number", w.x.which(w.maker, 3), number);
            Script.due("11: the number in a box", w.x.which(w.make(w.sealer, 0, World.number(number)), 4), number);
        }
        World w = new World();
        w.fillTo(40);
        w.x.introduce(w.maker, 0, 39);
        Script.due("11: the object's", w.x.which(w.maker, 0), 39);
        w.x.introduce(w.asker, 0, w.sleeper);
        for (int sent = w.x.messages(); sent < 200; sent++) {
            w.x.send(w.asker, 0, 0, -1, 3);
        }
        Script.due("11: the open promise's", w.x.which(w.asker, 3), 199);
        World none = new World();
        none.ask(none.maker, 4, World.BROKEN);
        Script.due("11: 0 where what() is 4", none.x.what(none.maker, 0) + " " + none.x.which(none.maker, 0), "4 0");
        Script.due("11: 0 where what() is 0", none.x.what(none.maker, 1) + " " + none.x.which(none.maker, 1), "0 0");
        Script.due("11: 0 where what() is BAD", none.x.what(none.mint, 4) + " " + none.x.which(none.mint, 4), "-1 0");
    }

    private static void detailParts() {
        World w = new World();
        for (int object = 0; object < w.x.objects(); object++) {
            for (int part : new int[] {LEAST, -2, -1, 2, 3, MOST}) {
                Script.due("12: BAD when part is not 0 or 1: " + part, w.x.detail(object, part), BAD);
            }
        }
        for (int object : new int[] {LEAST, -1, w.x.objects(), 40, MOST}) {
            Script.due("12: BAD when there is no such object as " + object, w.x.detail(object, 0), BAD);
            Script.due("12: BAD when there is no such object as " + object, w.x.detail(object, 1), BAD);
        }
    }

    private static void detailOfKinds() {
        World w = new World();
        int[] objects = {w.maker, w.gate, w.facet, w.brand, w.sealer, w.unsealer, w.box, w.mint, w.purse, w.membrane, w.wrapper};
        int[] first = {0, 0, w.gate, 0, w.brand, w.brand, w.brand, 0, 60, 0, w.membrane};
        int[] second = {0, w.facet, 0, 0, 0, 0, 0, 0, w.mint, 0, 0};
        for (int kind = 0; kind <= 10; kind++) {
            Script.due("12: part 0 of kind " + kind, w.x.detail(objects[kind], 0), first[kind]);
            Script.due("12: part 1 of kind " + kind, w.x.detail(objects[kind], 1), second[kind]);
        }
        w.ask(w.gate, 1, World.NOTHING);
        Script.due("12: of a revoked gate", w.x.detail(w.gate, 0) + " " + w.x.detail(w.gate, 1), "1 " + w.facet);
        Script.due("12: its facet has no such detail", w.x.detail(w.facet, 0) + " " + w.x.detail(w.facet, 1), w.gate + " 0");
        w.ask(w.wrapper, 4, World.object(w.asker));
        Script.due("12: of an inward wrapper", w.x.detail(13, 0) + " " + w.x.detail(13, 1), w.membrane + " 1");
        w.ask(w.membrane, 1, World.NOTHING);
        Script.due("12: of a revoked membrane", w.x.detail(w.membrane, 0) + " " + w.x.detail(w.membrane, 1), "1 0");
        Script.due("12: of its wrapper", w.x.detail(w.wrapper, 0) + " " + w.x.detail(w.wrapper, 1), w.membrane + " 0");
        w.ask(w.make(w.purse, 1, World.NOTHING), 2, World.object(w.purse));
        Script.due("12: of an emptied purse", w.x.detail(w.purse, 0) + " " + w.x.detail(w.purse, 1), "0 " + w.mint);
    }

    private static void messages() {
        CapabilityVats x = new CapabilityVats();
        Script.due("13: none at first", x.messages(), 0);
        x.send(0, 0, 0, -1, -1);
        Script.due("13: none for a refused call", x.messages(), 0);
        x.cell(0);
        x.send(0, 0, 0, -1, -1);
        Script.due("13: one, though it is broken", x.messages(), 1);
        for (int sent = 1; sent < 200; sent++) {
            x.send(0, 0, 0, -1, -1);
        }
        Script.due("13: 200", x.messages(), 200);
        x.send(0, 0, 0, -1, -1);
        Script.due("13: 200 at most", x.messages(), 200);
    }

    private static void place() {
        World w = new World();
        int sent = w.x.messages();
        Script.due("14: BAD for the next that is to be sent", w.x.place(sent), BAD);
        int message = w.post(w.facet, 3, World.NOTHING);
        Script.due("14: 1 in a queue", w.x.place(message), 1);
        w.x.turn(1);
        Script.due("14: 1 in a queue again when it is relayed", w.x.place(message), 1);
        w.x.turn(1);
        Script.due("14: 0 its promise was resolved", w.x.place(message), 0);
        w.x.introduce(w.asker, 0, w.sleeper);
        int first = w.x.send(w.asker, 0, 0, -1, 0);
        int second = w.x.send(w.asker, 0, 0, -1, -1);
        Script.due("14: 2 waiting at a promise", w.x.place(first) + " " + w.x.place(second), "1 2");
        w.x.introduce(w.sleeper, 0, w.sleeper);
        w.x.turn(2);
        Script.due("14: from there into a queue", w.x.place(first) + " " + w.x.place(second), "0 1");
        for (int none : new int[] {LEAST, -1, w.x.messages(), 200, MOST}) {
            Script.due("14: BAD when there is none, " + none, w.x.place(none), BAD);
        }
        promiseResolvedToOpen();
    }

    private static void promiseResolvedToOpen() {
        World w = new World();
        w.ask(w.maker, 4, World.OPEN);
        int message = w.ask(w.maker, 0, World.NOTHING);
        Script.due("14: 0 its promise was resolved, to an open one", w.x.place(message), 0);
        Script.due("15: 3 another open promise", w.x.result(message), 3);
        Script.due("16: that one's number", w.x.value(message), w.x.which(w.maker, 0));
        Script.due("19: none waits at either", w.x.waiting(message) + w.x.waiting(w.x.value(message)), 0);
    }

    private static void resultAndValue() {
        World w = new World();
        int message = w.post(w.maker, 0, World.NOTHING);
        Script.due("15: 3 itself", w.x.result(message), 3);
        Script.due("16: its own number", w.x.value(message), message);
        w.x.turn(1);
        Script.due("15: 4 broken", w.x.result(message), 4);
        Script.due("16: 0 when it is broken", w.x.value(message), 0);
        int withFirst = w.make(w.sealer, 0, World.object(0));
        Script.due("15, 16: 2 an object, number 0", w.tell(w.unsealer, 0, World.object(withFirst)), "object 0");
        Script.due("15, 16: 1 a number, 0", w.tell(w.gate, 2, World.NOTHING), "number 0");
        for (int none : new int[] {LEAST, -1, w.x.messages(), 200, MOST}) {
            Script.due("15: BAD when there is none, " + none, w.x.result(none), BAD);
            Script.due("16: 0 when there is no such promise, " + none, w.x.value(none), 0);
        }
        CapabilityVats x = new CapabilityVats();
        x.cell(0);
        x.introduce(0, 0, 0);
        for (int sent = 0; sent < 200; sent++) {
            x.send(0, 0, 0, -1, -1);
        }
        Script.due("15, 16: the last of 200", World.result(x, 199), "open 199");
        Script.due("15: none behind it", x.result(200), BAD);
    }

    private static void queuedAndNext() {
        World w = new World();
        int first = w.post(w.maker, 0, World.NOTHING);
        int second = w.post(w.maker, 0, World.NOTHING);
        for (int vat : new int[] {LEAST, -2, -1, 3, 4, MOST}) {
            Script.due("17: BAD when there is no such vat as " + vat, w.x.queued(vat), BAD);
            Script.due("18: NONE when there is no such vat as " + vat, w.x.next(vat, 0), NONE);
        }
        Script.due("17: an empty queue", w.x.queued(0), 0);
        Script.due("18: NONE in an empty queue", w.x.next(0, 0), NONE);
        Script.due("17: both", w.x.queued(1), 2);
        Script.due("18: with none before it", w.x.next(1, 0), first);
        Script.due("18: with one before it", w.x.next(1, 1), second);
        for (int k : new int[] {LEAST, -2, -1, 2, 3, 199, 200, MOST}) {
            Script.due("18: NONE with so many before it: " + k, w.x.next(1, k), NONE);
        }
        w.x.turn(1);
        Script.due("17, 18: the first is gone", w.x.queued(1) + " " + w.x.next(1, 0) + " " + w.x.next(1, 1), "1 " + second + " " + NONE);
    }

    private static void longQueue() {
        CapabilityVats x = new CapabilityVats();
        x.cell(2);
        x.introduce(0, 0, 0);
        for (int sent = 0; sent < 200; sent++) {
            x.send(0, 0, 0, -1, -1);
        }
        Script.due("17: 200 in a queue", x.queued(2), 200);
        Script.due("18: the last of them", x.next(2, 199), 199);
        Script.due("18: none behind it", x.next(2, 200), NONE);
        x.turn(2);
        Script.due("17: 199 in a queue", x.queued(2), 199);
        Script.due("18: the last of them has 198 before it", x.next(2, 198) + " " + x.next(2, 199), "199 " + NONE);
    }

    private static void waiting() {
        CapabilityVats x = new CapabilityVats();
        Script.due("19: BAD before any was sent", x.waiting(0), BAD);
        x.cell(0);
        x.introduce(0, 0, 0);
        x.introduce(0, 2, 0);
        x.send(0, 0, 2, -1, 1);
        for (int sent = 1; sent < 200; sent++) {
            x.send(0, 1, 0, -1, -1);
        }
        Script.due("19: 199 wait at a promise", x.waiting(0), 199);
        Script.due("19: none at the last", x.waiting(199), 0);
        for (int none : new int[] {LEAST, -1, 200, MOST}) {
            Script.due("19: BAD when there is no such promise as " + none, x.waiting(none), BAD);
        }
        x.turn(0);
        Script.due("19: none at a resolved one", x.waiting(0), 0);
        Script.due("17: all of them are in a queue then", x.queued(0), 199);
        Script.due("18: in their order", x.next(0, 0) + " " + x.next(0, 198), "1 199");
    }

    private static void notes() {
        World w = new World();
        int next = w.x.messages();
        Script.due("20: BAD for the next that is to be sent", w.x.notes(next), BAD);
        int message = w.post(w.wrapper, 15, World.NOTHING);
        Script.due("20: none at first", w.x.notes(message), 0);
        w.x.turn(1);
        Script.due("20: one", w.x.notes(message), 1);
        w.x.turn(1);
        Script.due("20: one, though its promise was resolved", w.x.place(message) + " " + w.x.notes(message), "0 1");
        Script.due("20: none for a message through a facet", w.x.notes(w.ask(w.facet, 0, World.NOTHING)), 0);
        for (int none : new int[] {LEAST, -1, w.x.messages(), 200, MOST}) {
            Script.due("20: BAD when there is none, " + none, w.x.notes(none), BAD);
        }
    }
}
