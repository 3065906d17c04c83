/** Promises 1 to 6: the smallest and largest arguments that each call takes, and those just beyond. */
public final class HostBoundsTest {
    private static final int LEAST = Integer.MIN_VALUE;
    private static final int MOST = Integer.MAX_VALUE;

    public static void main(String[] args) {
        newObject();
        cellVats();
        cellFull();
        numberSlots();
        numberCells();
        numberRange();
        introduceSlots();
        introduceObjects();
        sendCells();
        sendSlots();
        sendVerbs();
        sendFull();
        sendSameSlots();
        turnVats();
        turnEmpty();
        Script.end();
    }

    private static void newObject() {
        World used = new World();
        Script.due("1: the used object has objects", used.x.objects(), 13);
        CapabilityVats x = new CapabilityVats();
        Script.due("1: a new object has none of another's objects", x.objects(), 0);
        Script.due("1: a new object has none of another's messages", x.messages(), 0);
        Script.due("1: nor has it a queue", World.state(x), "\nqueue 0 of 0:\nqueue 1 of 0:\nqueue 2 of 0:");
        x.cell(2);
        Script.due("1: the used object has no more for the new one's cell", used.x.objects(), 13);
    }

    private static void cellVats() {
        for (int vat = 0; vat <= 2; vat++) {
            CapabilityVats x = new CapabilityVats();
            Script.due("2: the first cell in vat " + vat, x.cell(vat), 0);
            Script.due("2: its home", x.home(0), vat);
            Script.due("2: nothing is in it", World.held(x, 0, 0) + World.held(x, 0, 3), "nothingnothing");
        }
        for (int vat : new int[] {LEAST, -2, -1, 3, 4, MOST}) {
            CapabilityVats x = new CapabilityVats();
            Script.due("2: BAD when there is no such vat as " + vat, x.cell(vat), CapabilityVats.BAD);
            Script.due("2: and no object is made", x.objects(), 0);
        }
    }

    private static void cellFull() {
        World w = new World();
        w.fillTo(39);
        Script.due("2: with 39 objects the last is made", w.x.cell(2), 39);
        Script.due("2: FULL when there are 40 objects", w.x.cell(2), CapabilityVats.FULL);
        Script.due("2: FULL in vat 0", w.x.cell(0), CapabilityVats.FULL);
        Script.due("2: BAD though there are 40 objects", w.x.cell(3), CapabilityVats.BAD);
        Script.due("2: BAD though there are 40 objects", w.x.cell(-1), CapabilityVats.BAD);
        Script.due("2: there are 40 still", w.x.objects(), 40);
        World made = new World();
        made.fillTo(39);
        Script.due("2: the 40th comes of a message", made.tell(made.maker, 8, World.NOTHING), "object 39");
        Script.due("2: FULL whoever made them", made.x.cell(0), CapabilityVats.FULL);
    }

    private static void numberSlots() {
        for (int slot = 0; slot <= 3; slot++) {
            World w = new World();
            Script.due("3: slot " + slot, w.x.number(w.maker, slot, 5), true);
            Script.due("3: it is there", World.held(w.x, w.maker, slot), "number 5");
            Script.due("3: and in no other slot", World.held(w.x, w.maker, (slot + 1) % 4), "nothing");
        }
        for (int slot : new int[] {LEAST, -2, -1, 4, 5, MOST}) {
            World w = new World();
            String before = World.state(w.x);
            Script.due("3: false when there is no such slot as " + slot, w.x.number(w.maker, slot, 5), false);
            Script.due("3: and nothing changes", World.state(w.x), before);
        }
    }

    private static void numberCells() {
        World w = new World();
        String before = World.state(w.x);
        for (int object : w.noCells()) {
            Script.due("3: false when the object is no cell: " + object, w.x.number(object, 0, 5), false);
            Script.due("3: nor is what a facet, wrapper or box has a slot to put into", w.x.number(object, 4, 5), false);
        }
        for (int object : new int[] {LEAST, -1, w.x.objects(), 40, MOST}) {
            Script.due("3: false when there is no object " + object, w.x.number(object, 0, 5), false);
        }
        Script.due("3: nothing has changed", World.state(w.x), before);
        w.fillTo(40);
        Script.due("3: the last of 40", w.x.number(39, 3, 5), true);
        Script.due("3: and the one behind it", w.x.number(40, 3, 5), false);
    }

    private static void numberRange() {
        for (int number : new int[] {LEAST, -3, -2, -1, 0, 1, 1000000, 1000001, MOST}) {
            World w = new World();
            Script.due("3: any int", w.x.number(w.maker, 2, number), true);
            Script.due("3: stays as it is", World.held(w.x, w.maker, 2), "number " + number);
            Script.due("15, 16: and comes as it is", w.tell(w.maker, 2, World.NOTHING), "number " + number);
        }
        World w = new World();
        w.x.introduce(w.asker, 0, w.maker);
        w.x.send(w.asker, 0, 0, -1, 0);
        Script.due("3: over an open promise", w.x.number(w.asker, 0, 8), true);
        w.x.turn(1);
        Script.due("3: which stays away when it is resolved", World.held(w.x, w.asker, 0), "number 8");
    }

    private static void introduceSlots() {
        for (int slot = 0; slot <= 3; slot++) {
            World w = new World();
            Script.due("4: slot " + slot, w.x.introduce(w.maker, slot, w.box), true);
            Script.due("4: it is there", World.held(w.x, w.maker, slot), "object " + w.box);
            Script.due("4: and in no other slot", World.held(w.x, w.maker, (slot + 1) % 4), "nothing");
        }
        for (int slot : new int[] {LEAST, -2, -1, 4, 5, MOST}) {
            World w = new World();
            String before = World.state(w.x);
            Script.due("4: false when there is no such slot as " + slot, w.x.introduce(w.maker, slot, 0), false);
            Script.due("4: and nothing changes", World.state(w.x), before);
        }
    }

    private static void introduceObjects() {
        World w = new World();
        Script.due("4: a cell to itself", w.x.introduce(w.maker, 0, w.maker), true);
        Script.due("4: a cell to itself", World.held(w.x, w.maker, 0), "object " + w.maker);
        for (int object : w.noCells()) {
            Script.due("4: an object of any kind", w.x.introduce(w.maker, 1, object), true);
            Script.due("4: an object of any kind", World.held(w.x, w.maker, 1), "object " + object);
        }
        String before = World.state(w.x);
        for (int object : w.noCells()) {
            Script.due("4: false when the first object is no cell", w.x.introduce(object, 0, w.maker), false);
            Script.due("4: slot 4 is none to put into", w.x.introduce(object, 4, w.maker), false);
        }
        for (int object : new int[] {LEAST, -1, w.x.objects(), 40, MOST}) {
            Script.due("4: false when there is no such first object as " + object, w.x.introduce(object, 0, 0), false);
            Script.due("4: false when there is no such object as " + object, w.x.introduce(0, 0, object), false);
        }
        Script.due("4: nothing has changed", World.state(w.x), before);
        w.fillTo(40);
        Script.due("4: the last of 40", w.x.introduce(0, 3, 39), true);
        Script.due("4: and the one behind it", w.x.introduce(0, 3, 40), false);
    }

    private static void sendCells() {
        World w = new World();
        String before = World.state(w.x);
        for (int object : w.noCells()) {
            Script.due("5: BAD when the object is no cell", w.x.send(object, 0, 0, -1, -1), CapabilityVats.BAD);
        }
        for (int object : new int[] {LEAST, -1, w.x.objects(), 40, MOST}) {
            Script.due("5: BAD when there is no object " + object, w.x.send(object, 0, 0, -1, -1), CapabilityVats.BAD);
        }
        Script.due("5: nothing has changed", World.state(w.x), before);
        Script.due("5: a cell that a message made may send", w.x.send(w.make(w.maker, 8, World.NOTHING), 3, 0, 3, 3),
                w.x.messages() - 1);
    }

    private static void sendSlots() {
        World w = new World();
        String before = World.state(w.x);
        for (int slot : new int[] {LEAST, -2, 4, 5, MOST}) {
            Script.due("5: BAD, target " + slot, w.x.send(0, slot, 0, -1, -1), CapabilityVats.BAD);
            Script.due("5: BAD, argument " + slot, w.x.send(0, 0, 0, slot, -1), CapabilityVats.BAD);
            Script.due("5: BAD, result " + slot, w.x.send(0, 0, 0, -1, slot), CapabilityVats.BAD);
        }
        Script.due("5: BAD, a target of -1 is no slot", w.x.send(0, -1, 0, -1, -1), CapabilityVats.BAD);
        Script.due("5: nothing has changed", World.state(w.x), before);
        for (int slot = 0; slot <= 3; slot++) {
            World each = new World();
            int first = each.x.messages();
            each.x.introduce(each.maker, slot, each.maker);
            Script.due("5: target " + slot, each.x.send(each.maker, slot, 4, slot, -1), first);
            Script.due("5: it goes to what is there", each.x.next(1, 0), first);
            Script.due("5: result " + slot, each.x.send(each.maker, slot, 15, -1, slot), first + 1);
            Script.due("5: the promise is there", World.held(each.x, each.maker, slot), "open " + (first + 1));
            each.x.turn(1);
            Script.due("5: argument " + slot, World.result(each.x, first), "number 0");
            Script.due("5: it came along", World.held(each.x, each.maker, 0), "object " + each.maker);
        }
    }

    private static void sendVerbs() {
        World w = new World();
        String before = World.state(w.x);
        for (int verb : new int[] {LEAST, -2, -1, 16, 17, MOST}) {
            Script.due("5: BAD, verb " + verb, w.x.send(0, 0, verb, -1, 1), CapabilityVats.BAD);
        }
        Script.due("5: nothing has changed", World.state(w.x), before);
        int first = w.x.messages();
        for (int verb = 0; verb <= 15; verb++) {
            Script.due("5: verb " + verb, w.x.send(0, 0, verb, -1, -1), first + verb);
        }
    }

    private static void sendFull() {
        World w = new World();
        w.x.number(w.asker, 2, 7);
        w.x.number(w.asker, 3, 8);
        for (int sent = w.x.messages(); sent < 199; sent++) {
            w.x.send(w.asker, 2, 0, -1, -1);
        }
        Script.due("5: with 199 messages the last is sent", w.x.send(w.asker, 2, 0, -1, -1), 199);
        String before = World.state(w.x);
        Script.due("5: FULL when there are 200 messages", w.x.send(w.asker, 2, 0, -1, 3), CapabilityVats.FULL);
        Script.due("5: FULL for a target of nothing", w.x.send(w.maker, 0, 0, -1, 3), CapabilityVats.FULL);
        Script.due("5: BAD though there are 200", w.x.send(w.asker, 4, 0, -1, 3), CapabilityVats.BAD);
        Script.due("5: BAD though there are 200", w.x.send(w.asker, 2, 16, -1, 3), CapabilityVats.BAD);
        Script.due("5: BAD though there are 200", w.x.send(w.asker, 2, 0, 4, 3), CapabilityVats.BAD);
        Script.due("5: BAD though there are 200", w.x.send(w.asker, 2, 0, -1, 4), CapabilityVats.BAD);
        Script.due("5: BAD though there are 200", w.x.send(w.gate, 2, 0, -1, 3), CapabilityVats.BAD);
        Script.due("13: 200 were sent", w.x.messages(), 200);
        Script.due("5: nothing has changed, nor is a promise put into a slot", World.state(w.x), before);
    }

    private static void sendSameSlots() {
        World w = new World();
        int first = w.x.messages();
        w.x.introduce(w.maker, 1, w.maker);
        Script.due("5: one slot for target, argument and result", w.x.send(w.maker, 1, 4, 1, 1), first);
        Script.due("5: the promise is put there", World.held(w.x, w.maker, 1), "open " + first);
        w.x.turn(1);
        Script.due("5: after target and argument were taken", World.held(w.x, w.maker, 0), "object " + w.maker);
        Script.due("5: the answer", World.held(w.x, w.maker, 1), "number 0");
        Script.due("5: a target of nothing with the result in its slot", w.x.send(w.maker, 2, 0, 2, 2), first + 1);
        Script.due("5: is broken", World.held(w.x, w.maker, 2), "broken");
        Script.due("5: it doesn't wait at itself", w.x.waiting(first + 1), 0);
    }

    private static void turnVats() {
        World w = new World();
        int message = w.post(w.maker, 0, World.NOTHING);
        String before = World.state(w.x);
        for (int vat : new int[] {LEAST, -2, -1, 3, 4, MOST}) {
            Script.due("6: BAD when there is no such vat as " + vat, w.x.turn(vat), CapabilityVats.BAD);
        }
        Script.due("6: NONE in the vats with no message", w.x.turn(0) + w.x.turn(2), 2 * CapabilityVats.NONE);
        Script.due("6: nothing has changed", World.state(w.x), before);
        Script.due("6: the message of the vat that has one", w.x.turn(1), message);
    }

    private static void turnEmpty() {
        CapabilityVats x = new CapabilityVats();
        for (int vat = 0; vat <= 2; vat++) {
            Script.due("6: NONE when the queue is empty", x.turn(vat), CapabilityVats.NONE);
        }
        x.cell(0);
        x.cell(1);
        x.introduce(0, 0, 1);
        x.send(0, 0, 0, -1, 0);
        x.send(0, 0, 0, -1, -1);
        Script.due("6: NONE though one waits at a promise", x.turn(0), CapabilityVats.NONE);
        Script.due("6: the one that is in a queue", x.turn(1), 0);
        Script.due("6: NONE when the last is taken out", x.turn(1), CapabilityVats.NONE);
        Script.due("6: and again", x.turn(1), CapabilityVats.NONE);
    }
}
