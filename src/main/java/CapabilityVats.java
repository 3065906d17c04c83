/** Objects in three vats that reach one another by references alone, as the document's promises say. */
public final class CapabilityVats {
    public static final int BAD = -1;
    public static final int FULL = -2;
    public static final int NONE = -3;

    private static final int VATS = 3;
    private static final int MOST_OBJECTS = 40;
    private static final int MOST_MESSAGES = 200;
    private static final int MOST_NOTES = 8;
    private static final int MOST_MINTED = 1000000;
    private static final int SLOTS = 4;
    private static final int VERBS = 16;
    private static final int NO_SLOT = -1;
    /** The slot under which the host sees what a facet, a wrapper or a box holds. */
    private static final int HELD = 4;

    private static final int CELL = 0;
    private static final int GATE = 1;
    private static final int FACET = 2;
    private static final int BRAND = 3;
    private static final int SEALER = 4;
    private static final int UNSEALER = 5;
    private static final int BOX = 6;
    private static final int MINT = 7;
    private static final int PURSE = 8;
    private static final int MEMBRANE = 9;
    private static final int WRAPPER = 10;

    // The sorts of references are numbered as what() and result() answer them.
    private static final int NOTHING = 0;
    private static final int NUMBER = 1;
    private static final int OBJECT = 2;
    private static final int PROMISE = 3;
    private static final int BROKEN = 4;

    // The places are numbered as place() answers them.
    private static final int RESOLVED = 0;
    private static final int IN_QUEUE = 1;
    private static final int WAITING = 2;

    private final Reference nothing = new Reference(NOTHING, 0);
    private final Reference broken = new Reference(BROKEN, 0);
    private final Thing[] things = new Thing[MOST_OBJECTS];
    private int thingCount = 0;
    private final Message[] sent = new Message[MOST_MESSAGES];
    private int sentCount = 0;
    private final Line[] queues = new Line[VATS];
    /** Empty between calls; breaking a long chain of promises goes through it and not through the stack. */
    private final Line unrouted = new Line();

    public CapabilityVats() {
        for (int vat = 0; vat < VATS; vat++) {
            queues[vat] = new Line();
        }
    }

    public int cell(int vat) {
        if (!isVat(vat)) {
            return BAD;
        }
        Thing made = make(CELL, vat, null);
        return made == null ? FULL : made.number;
    }

    public boolean number(int cell, int slot, int number) {
        Thing holder = cellAt(cell);
        if (holder == null || !isSlot(slot)) {
            return false;
        }
        holder.slots[slot] = numeral(number);
        return true;
    }

    public boolean introduce(int cell, int slot, int object) {
        Thing holder = cellAt(cell);
        Thing introduced = thingAt(object);
        if (holder == null || introduced == null || !isSlot(slot)) {
            return false;
        }
        holder.slots[slot] = introduced.self;
        return true;
    }

    public int send(int cell, int target, int verb, int argument, int result) {
        Thing sender = cellAt(cell);
        if (sender == null || !isSlot(target) || verb < 0 || verb >= VERBS) {
            return BAD;
        }
        if (!isSlotOrNone(argument) || !isSlotOrNone(result)) {
            return BAD;
        }
        if (sentCount >= MOST_MESSAGES) {
            return FULL;
        }
        Reference taken = argument == NO_SLOT ? nothing : sender.slots[argument];
        Message message = new Message(sentCount, sender.slots[target], verb, taken);
        sent[sentCount] = message;
        sentCount++;
        if (result != NO_SLOT) {
            sender.slots[result] = message.promise;
        }
        unrouted.join(message);
        routeAll();
        return message.number;
    }

    public int turn(int vat) {
        if (!isVat(vat)) {
            return BAD;
        }
        Message message = queues[vat].take();
        if (message == null) {
            return NONE;
        }
        Thing receiver = thingOf(message.target);
        if (receiver != null && relays(receiver, message)) {
            relay(receiver, message);
        } else {
            settle(message, wrapAsNoted(answer(receiver, message), message));
        }
        routeAll();
        return message.number;
    }

    public int objects() {
        return thingCount;
    }

    public int kind(int object) {
        Thing thing = thingAt(object);
        return thing == null ? BAD : thing.kind;
    }

    public int home(int object) {
        Thing thing = thingAt(object);
        return thing == null ? BAD : thing.home;
    }

    public int what(int object, int slot) {
        Reference held = heldAt(object, slot);
        return held == null ? BAD : held.sort;
    }

    public int which(int object, int slot) {
        Reference held = heldAt(object, slot);
        return held == null ? 0 : held.index;
    }

    public int detail(int object, int part) {
        Thing thing = thingAt(object);
        if (thing == null || part < 0 || part > 1) {
            return BAD;
        }
        return part == 0 ? firstDetail(thing) : secondDetail(thing);
    }

    public int messages() {
        return sentCount;
    }

    public int place(int message) {
        Message asked = messageAt(message);
        return asked == null ? BAD : asked.place;
    }

    public int result(int promise) {
        Message asked = messageAt(promise);
        return asked == null ? BAD : countsAs(asked.promise).sort;
    }

    public int value(int promise) {
        Message asked = messageAt(promise);
        return asked == null ? 0 : countsAs(asked.promise).index;
    }

    public int queued(int vat) {
        return isVat(vat) ? queues[vat].length : BAD;
    }

    public int next(int vat, int k) {
        if (!isVat(vat)) {
            return NONE;
        }
        Message found = queues[vat].withBefore(k);
        return found == null ? NONE : found.number;
    }

    public int waiting(int promise) {
        Message asked = messageAt(promise);
        return asked == null ? BAD : asked.waiters.length;
    }

    public int notes(int message) {
        Message asked = messageAt(message);
        return asked == null ? BAD : asked.noteCount;
    }

    private static boolean isVat(int vat) {
        return vat >= 0 && vat < VATS;
    }

    private static boolean isSlot(int slot) {
        return slot >= 0 && slot < SLOTS;
    }

    private static boolean isSlotOrNone(int slot) {
        return slot == NO_SLOT || isSlot(slot);
    }

    private Thing thingAt(int object) {
        return object >= 0 && object < thingCount ? things[object] : null;
    }

    private Thing cellAt(int object) {
        Thing thing = thingAt(object);
        return thing != null && thing.kind == CELL ? thing : null;
    }

    private Message messageAt(int message) {
        return message >= 0 && message < sentCount ? sent[message] : null;
    }

    /** What the slot's content counts as; null where the object has no such slot. */
    private Reference heldAt(int object, int slot) {
        Thing thing = thingAt(object);
        if (thing == null) {
            return null;
        }
        if (thing.kind == CELL) {
            return isSlot(slot) ? countsAs(thing.slots[slot]) : null;
        }
        return slot == HELD && thing.holdsOne() ? countsAs(thing.held) : null;
    }

    private static int firstDetail(Thing thing) {
        switch (thing.kind) {
            case GATE:
            case MEMBRANE:
                return thing.revoked ? 1 : 0;
            case PURSE:
                return thing.balance;
            default:
                return thing.owner == null ? 0 : thing.owner.number;
        }
    }

    private static int secondDetail(Thing thing) {
        switch (thing.kind) {
            case GATE:
                return thing.facet == null ? 0 : thing.facet.number;
            case PURSE:
                return thing.owner == null ? 0 : thing.owner.number;
            case WRAPPER:
                return thing.inward ? 1 : 0;
            default:
                return 0;
        }
    }

    private Reference countsAs(Reference reference) {
        Reference meant = reference;
        // No promise is ever resolved to what counts as itself, so each is passed at most once.
        for (int passed = 0; passed < MOST_MESSAGES && meant.sort == PROMISE; passed++) {
            Message resolved = messageAt(meant.index);
            if (resolved == null || resolved.answer == null) {
                return meant;
            }
            meant = resolved.answer;
        }
        return meant;
    }

    /** The object that a reference counts as, or null. */
    private Thing thingOf(Reference reference) {
        Reference meant = countsAs(reference);
        return meant.sort == OBJECT ? thingAt(meant.index) : null;
    }

    /** The message whose open promise a reference counts as, or null. */
    private Message awaitedBy(Reference reference) {
        Reference meant = countsAs(reference);
        return meant.sort == PROMISE ? messageAt(meant.index) : null;
    }

    private Thing thingOfKind(int kind, Reference reference) {
        Thing thing = thingOf(reference);
        return thing != null && thing.kind == kind ? thing : null;
    }

    private boolean isNumberUpTo(int most, Reference reference) {
        Reference meant = countsAs(reference);
        return meant.sort == NUMBER && meant.index >= 0 && meant.index <= most;
    }

    private static Reference numeral(int number) {
        return new Reference(NUMBER, number);
    }

    private static Reference truth(boolean holds) {
        return numeral(holds ? 1 : 0);
    }

    private Reference brokenIfNothing(Reference reference) {
        return reference.sort == NOTHING ? broken : reference;
    }

    private Reference referenceTo(Thing made) {
        return made == null ? broken : made.self;
    }

    /** Resolves the message's promise; those that waited there are left to routeAll(). */
    private void settle(Message message, Reference answer) {
        message.answer = awaitedBy(answer) == message ? broken : brokenIfNothing(answer);
        message.place = RESOLVED;
        unrouted.takeOver(message.waiters);
    }

    private void routeAll() {
        // A message that is routed here once is not unrouted again in the same call.
        for (int routed = 0; routed < MOST_MESSAGES; routed++) {
            Message message = unrouted.take();
            if (message == null) {
                return;
            }
            route(message);
        }
    }

    private void route(Message message) {
        Thing receiver = thingOf(message.target);
        Message awaited = awaitedBy(message.target);
        if (receiver != null) {
            message.place = IN_QUEUE;
            queues[receiver.home].join(message);
        } else if (awaited != null) {
            message.place = WAITING;
            awaited.waiters.join(message);
        } else {
            settle(message, broken);
        }
    }

    private static boolean relays(Thing receiver, Message message) {
        if (receiver.isCutOff()) {
            return false;
        }
        return receiver.kind == FACET || receiver.kind == WRAPPER && message.noteCount < MOST_NOTES;
    }

    private void relay(Thing receiver, Message message) {
        if (receiver.kind == WRAPPER) {
            message.argument = wrap(message.argument, receiver.owner, !receiver.inward);
            message.noteDown(receiver);
        }
        message.target = receiver.held;
        unrouted.join(message);
    }

    private Reference wrapAsNoted(Reference answer, Message message) {
        Reference wrapped = answer;
        for (int note = message.noteCount - 1; note >= 0; note--) {
            Thing passed = message.passed[note];
            boolean isBarred = passed == null || passed.isCutOff();
            wrapped = isBarred ? broken : wrap(wrapped, passed.owner, passed.inward);
        }
        return wrapped;
    }

    private Reference wrap(Reference reference, Thing membrane, boolean inward) {
        Reference meant = countsAs(reference);
        if (meant.sort != OBJECT && meant.sort != PROMISE) {
            return meant;
        }
        Thing wrapper = thingOfKind(WRAPPER, meant);
        if (wrapper != null && wrapper.owner == membrane) {
            return wrapper.inward == inward ? meant : wrapper.held;
        }
        Thing found = findWrapper(meant, membrane, inward);
        return referenceTo(found == null ? makeWrapper(meant, membrane, inward) : found);
    }

    private Thing findWrapper(Reference meant, Thing membrane, boolean inward) {
        for (int i = 0; i < thingCount; i++) {
            Thing thing = thingAt(i);
            boolean isOfMembrane = thing != null && thing.kind == WRAPPER && thing.owner == membrane;
            if (isOfMembrane && thing.inward == inward && countsAs(thing.held).isSame(meant)) {
                return thing;
            }
        }
        return null;
    }

    private Thing makeWrapper(Reference meant, Thing membrane, boolean inward) {
        Thing made = make(WRAPPER, membrane.home, membrane);
        if (made != null) {
            made.held = meant;
            made.inward = inward;
        }
        return made;
    }

    private Reference answer(Thing receiver, Message message) {
        if (receiver == null) {
            return broken;
        }
        int verb = message.verb;
        Reference argument = message.argument;
        switch (receiver.kind) {
            case CELL:
                return answerOfCell(receiver, verb, argument);
            case GATE:
                return verb == 0 ? referenceTo(receiver.facet) : answerOfRevocable(receiver, verb);
            case BRAND:
                return answerOfBrand(receiver, verb);
            case SEALER:
                return verb == 0 ? makeBox(receiver, argument) : broken;
            case UNSEALER:
                return verb == 0 ? unseal(receiver, argument) : broken;
            case MINT:
                return verb == 0 ? makeMoney(receiver, argument) : broken;
            case PURSE:
                return answerOfPurse(receiver, verb, argument);
            case MEMBRANE:
                return verb == 0 ? wrap(argument, receiver, false) : answerOfRevocable(receiver, verb);
            default:
                // A box understands nothing; a facet or a wrapper that may not relay is broken.
                return broken;
        }
    }

    private Reference answerOfCell(Thing cell, int verb, Reference argument) {
        if (isSlot(verb)) {
            return brokenIfNothing(cell.slots[verb]);
        }
        if (isSlot(verb - SLOTS)) {
            cell.slots[verb - SLOTS] = argument;
            return numeral(0);
        }
        switch (verb) {
            case 8:
                return referenceTo(make(CELL, cell.home, null));
            case 9:
                return makeGate(cell, argument);
            case 10:
                return referenceTo(make(BRAND, cell.home, null));
            case 11:
                return referenceTo(make(MINT, cell.home, null));
            case 12:
                return referenceTo(make(MEMBRANE, cell.home, null));
            default:
                return broken;
        }
    }

    /** The verbs that a gate and a membrane have in common. */
    private Reference answerOfRevocable(Thing revocable, int verb) {
        switch (verb) {
            case 1:
                revocable.revoked = true;
                return numeral(0);
            case 2:
                return truth(revocable.revoked);
            default:
                return broken;
        }
    }

    private Reference answerOfBrand(Thing brand, int verb) {
        switch (verb) {
            case 0:
                return referenceTo(make(SEALER, brand.home, brand));
            case 1:
                return referenceTo(make(UNSEALER, brand.home, brand));
            default:
                return broken;
        }
    }

    private Reference answerOfPurse(Thing purse, int verb, Reference argument) {
        switch (verb) {
            case 0:
                return numeral(purse.balance);
            case 1:
                return referenceTo(make(PURSE, purse.home, purse.owner));
            case 2:
                return deposit(purse, argument);
            case 3:
                return split(purse, argument);
            default:
                return broken;
        }
    }

    private Reference deposit(Thing purse, Reference argument) {
        Thing other = thingOfKind(PURSE, argument);
        if (other == null || other == purse || other.owner != purse.owner) {
            return broken;
        }
        int amount = other.balance;
        other.balance = 0;
        purse.balance += amount;
        return numeral(amount);
    }

    private Reference split(Thing purse, Reference argument) {
        if (!isNumberUpTo(purse.balance, argument)) {
            return broken;
        }
        Thing made = make(PURSE, purse.home, purse.owner);
        if (made != null) {
            made.balance = countsAs(argument).index;
            purse.balance -= made.balance;
        }
        return referenceTo(made);
    }

    private Reference unseal(Thing unsealer, Reference argument) {
        Thing box = thingOfKind(BOX, argument);
        if (box == null || box.owner != unsealer.owner) {
            return broken;
        }
        return brokenIfNothing(box.held);
    }

    /** A new object, or null when there are as many as there may be. */
    private Thing make(int kind, int home, Thing owner) {
        if (thingCount >= MOST_OBJECTS) {
            return null;
        }
        Thing made = new Thing(thingCount, kind, home, owner, nothing);
        things[thingCount] = made;
        thingCount++;
        return made;
    }

    private Reference makeGate(Thing maker, Reference target) {
        if (thingCount + 2 > MOST_OBJECTS) {
            return broken;
        }
        Thing gate = make(GATE, maker.home, null);
        Thing facet = make(FACET, maker.home, gate);
        if (gate == null || facet == null) {
            return broken;
        }
        facet.held = target;
        gate.facet = facet;
        return gate.self;
    }

    private Reference makeBox(Thing sealer, Reference content) {
        Thing box = make(BOX, sealer.home, sealer.owner);
        if (box != null) {
            box.held = content;
        }
        return referenceTo(box);
    }

    private Reference makeMoney(Thing mint, Reference amount) {
        if (!isNumberUpTo(MOST_MINTED, amount)) {
            return broken;
        }
        Thing purse = make(PURSE, mint.home, mint);
        if (purse != null) {
            purse.balance = countsAs(amount).index;
        }
        return referenceTo(purse);
    }

    /** A reference never changes, so the same one may stand in many places. */
    private static final class Reference {
        final int sort;
        /** The number itself, or that of the object or promise; 0 for nothing and broken. */
        final int index;

        Reference(int sort, int index) {
            this.sort = sort;
            this.index = index;
        }

        boolean isSame(Reference other) {
            return sort == other.sort && index == other.index;
        }
    }

    /** An object of any kind; each kind uses the fields that it has a need of. */
    private static final class Thing {
        final int number;
        final int kind;
        final int home;
        /** The facet's gate, the brand, the purse's mint or the wrapper's membrane; null for other kinds. */
        final Thing owner;
        final Reference self;
        /** A cell's; other kinds have them too, unused, so that none is ever null. */
        final Reference[] slots = new Reference[SLOTS];
        /** The target of a facet or wrapper, or what is in a box; other kinds leave it as it was made. */
        Reference held;
        /** A gate's; null for other kinds. */
        Thing facet;
        boolean revoked;
        boolean inward;
        int balance;

        Thing(int number, int kind, int home, Thing owner, Reference content) {
            this.number = number;
            this.kind = kind;
            this.home = home;
            this.owner = owner;
            this.self = new Reference(OBJECT, number);
            this.held = content;
            for (int slot = 0; slot < SLOTS; slot++) {
                this.slots[slot] = content;
            }
        }

        boolean holdsOne() {
            return kind == FACET || kind == BOX || kind == WRAPPER;
        }

        /** Of a facet or a wrapper: there is no gate or membrane any more that lets a message through. */
        boolean isCutOff() {
            return owner == null || owner.revoked;
        }
    }

    /** A message together with the promise of the same number. */
    private static final class Message {
        final int number;
        final int verb;
        final Reference promise;
        final Line waiters = new Line();
        Reference target;
        Reference argument;
        /** What the promise is resolved to; null while it is open. */
        Reference answer;
        int place;
        /** The one behind this in the line where it stands: a message stands in one line at a time. */
        Message behind;
        /** A wrapper's membrane and direction never change, so the wrapper that was passed is the note. */
        final Thing[] passed = new Thing[MOST_NOTES];
        int noteCount;

        Message(int number, Reference target, int verb, Reference argument) {
            this.number = number;
            this.target = target;
            this.verb = verb;
            this.argument = argument;
            this.promise = new Reference(PROMISE, number);
        }

        void noteDown(Thing wrapper) {
            if (noteCount < MOST_NOTES) {
                passed[noteCount] = wrapper;
                noteCount++;
            }
        }
    }

    /** Messages one behind the other: a vat's queue, or those that wait at a promise. */
    private static final class Line {
        Message first;
        Message last;
        int length;

        void join(Message message) {
            message.behind = null;
            if (last == null) {
                first = message;
            } else {
                last.behind = message;
            }
            last = message;
            length++;
        }

        /** Takes out the first; null when there is none. */
        Message take() {
            Message taken = first;
            if (taken == null) {
                return null;
            }
            first = taken.behind;
            if (first == null) {
                last = null;
            }
            length--;
            return taken;
        }

        void takeOver(Line other) {
            for (int left = other.length; left > 0; left--) {
                Message taken = other.take();
                if (taken != null) {
                    join(taken);
                }
            }
        }

        /** The message with so many others before it; null when there is none. */
        Message withBefore(int others) {
            if (others < 0 || others >= length) {
                return null;
            }
            Message found = first;
            for (int passed = 0; passed < others && found != null; passed++) {
                found = found.behind;
            }
            return found;
        }
    }
}
