import java.util.List;

/** "Wrapping", wrappers and notes: each sentence at its edges. In a World the next new object has the number 13. */
public final class WrapBoundsTest {
    public static void main(String[] args) {
        whatStays();
        ownWrappers();
        otherObjects();
        openPromises();
        lowestNumber();
        wrapperArguments();
        wrapperTargets();
        notesUpToEight();
        revokedWhenAsked();
        revokedMembrane();
        answersAsNoted();
        latestNoteFirst();
        revokedByThen();
        noRoomForArgument();
        noRoomForAnswer();
        brokenInRouting();
        Script.end();
    }

    private static void whatStays() {
        for (int number : new int[] {Integer.MIN_VALUE, -1, 0, 1, Integer.MAX_VALUE}) {
            World w = new World();
            Script.due("WRAPPING: a number stays as it is", w.tell(w.membrane, 0, World.number(number)), "number " + number);
            Script.due("WRAPPING: no wrapper for a number", w.x.objects(), 13);
        }
        World w = new World();
        Script.due("WRAPPING: broken stays as it is", w.tell(w.membrane, 0, World.BROKEN), "broken");
        Script.due("WRAPPING: nothing stays as it is, and so the answer is broken", w.tell(w.membrane, 0, World.NOTHING), "broken");
        Script.due("WRAPPING: no wrapper for these", w.x.objects(), 13);
    }

    private static void ownWrappers() {
        World w = new World();
        Script.due("WRAPPING: a wrapper with this direction stays", w.tell(w.membrane, 0, World.object(w.wrapper)), "object " + w.wrapper);
        int inward = inwardFor(w, w.asker);
        Script.due("WRAPPING: the wrapper that came in is inward", detail(w, inward), "10 " + w.membrane + " 1 object " + w.asker);
        Script.due("WRAPPING: from one with the other direction its target comes", w.tell(w.membrane, 0, World.object(inward)), "object " + w.asker);
        Script.due("WRAPPING: no wrapper is made", w.x.objects(), 14);
        w.tell(w.wrapper, 5, World.object(w.wrapper));
        Script.due("WRAPPING: inward, the outward wrapper's target comes", World.held(w.x, w.maker, 1), "object " + w.maker);
        w.tell(w.wrapper, 6, World.object(inward));
        Script.due("WRAPPING: inward, an inward wrapper stays", World.held(w.x, w.maker, 2), "object " + inward);
        Script.due("WRAPPING: no wrapper is made", w.x.objects(), 14);
        targetThatIsANumber();
    }

    private static void targetThatIsANumber() {
        World w = new World();
        w.ask(w.wrapper, 4, World.OPEN);
        int inward = w.x.which(w.maker, 0);
        int open = w.x.which(inward, 4);
        Script.due("WRAPPING: from the other direction an open promise may come", w.tell(w.membrane, 0, World.object(inward)), "open " + open);
        w.x.number(w.sleeper, 0, 77);
        w.x.turn(2);
        Script.due("WRAPPING: or what it was resolved to", w.tell(w.membrane, 0, World.object(inward)), "number 77");
    }

    private static void otherObjects() {
        World w = new World();
        int due = 13;
        for (int object : new int[] {w.asker, w.gate, w.facet, w.brand, w.sealer, w.unsealer, w.box, w.mint, w.purse, w.membrane}) {
            Script.due("WRAPPING: a new wrapper for kind " + w.x.kind(object), w.tell(w.membrane, 0, World.object(object)), "object " + due);
            Script.due("WRAPPING: of this membrane, outward, for it", detail(w, due), "10 " + w.membrane + " 0 object " + object);
            Script.due("WRAPPING: home that of the membrane", w.x.home(due), 1);
            Script.due("WRAPPING: the same one the next time", w.tell(w.membrane, 0, World.object(object)), "object " + due);
            due++;
        }
        World two = new World();
        int other = two.make(two.maker, 12, World.NOTHING);
        Script.due("WRAPPING: a wrapper of another membrane has a wrapper", two.tell(other, 0, World.object(two.wrapper)), "object 14");
        Script.due("WRAPPING: for the wrapper", detail(two, 14), "10 " + other + " 0 object " + two.wrapper);
        Script.due("WRAPPING: another membrane has a wrapper of its own", two.tell(other, 0, World.object(two.maker)), "object 15");
        int inward = inwardFor(two, two.asker);
        Script.due("WRAPPING: an inward wrapper of another membrane, too", detail(two, two.make(other, 0, World.object(inward))),
                "10 " + other + " 0 object " + inward);
    }

    private static void openPromises() {
        World w = new World();
        int wrapper = w.make(w.membrane, 0, World.OPEN);
        int open = w.x.which(wrapper, 4);
        Script.due("WRAPPING: a wrapper for an open promise", detail(w, wrapper), "10 " + w.membrane + " 0 open " + open);
        Script.due("WRAPPING: another for another", w.tell(w.membrane, 0, World.OPEN), "object 14");
        w.x.introduce(w.sleeper, 0, w.maker);
        w.x.turn(2);
        Script.due("WRAPPING: its target counts as an object then", detail(w, wrapper), "10 " + w.membrane + " 0 object " + w.maker);
        Script.due("WRAPPING: the other one's is open still", w.x.what(14, 4), 3);
        w.x.number(w.sleeper, 0, 5);
        w.x.turn(2);
        Script.due("WRAPPING: a wrapper whose target came to be a number stays", w.tell(w.membrane, 0, World.object(14)), "object 14");
        Script.due("WRAPPING: and its messages are broken", w.tell(14, 0, World.NOTHING), "broken");
    }

    private static void lowestNumber() {
        World w = new World();
        int first = w.make(w.membrane, 0, World.OPEN);
        int second = w.make(w.membrane, 0, World.OPEN);
        int third = w.make(w.membrane, 0, World.object(w.asker));
        w.x.introduce(w.sleeper, 0, w.asker);
        Script.due("WRAPPING: before, the object's own", w.tell(w.membrane, 0, World.object(w.asker)), "object " + third);
        int firstPromise = w.x.which(first, 4);
        w.x.turn(2);
        Script.due("WRAPPING: the first promise is resolved", World.result(w.x, firstPromise), "object " + w.asker);
        Script.due("WRAPPING: the one with the lowest number whose target counts as it", w.tell(w.membrane, 0, World.object(w.asker)), "object " + first);
        w.x.turn(2);
        Script.due("WRAPPING: and not the second", w.tell(w.membrane, 0, World.object(w.asker)), "object " + first);
        Script.due("WRAPPING: the others stay when they are wrapped", w.tell(w.membrane, 0, World.object(second)), "object " + second);
        Script.due("WRAPPING: no wrapper is made", w.x.objects(), 16);
    }

    private static void wrapperArguments() {
        World w = new World();
        w.x.number(w.maker, 0, 1);
        w.tell(w.wrapper, 4, World.NOTHING);
        Script.due("WRAPPER: nothing goes in as nothing", World.held(w.x, w.maker, 0), "nothing");
        w.tell(w.wrapper, 4, World.number(-5));
        Script.due("WRAPPER: a number goes in as it is", World.held(w.x, w.maker, 0), "number -5");
        w.tell(w.wrapper, 4, World.BROKEN);
        Script.due("WRAPPER: broken goes in as it is", World.held(w.x, w.maker, 0), "broken");
        Script.due("WRAPPER: no wrapper is made for these", w.x.objects(), 13);
        w.tell(w.wrapper, 4, World.OPEN);
        Script.due("WRAPPER: an open promise is wrapped inward", detail(w, 13).startsWith("10 " + w.membrane + " 1 open "), true);
        Script.due("WRAPPER: that goes in", World.held(w.x, w.maker, 0), "object 13");
        w.tell(w.wrapper, 4, World.object(w.maker));
        Script.due("WRAPPER: its own target is wrapped inward, too", detail(w, 14), "10 " + w.membrane + " 1 object " + w.maker);
        int message = w.ask(14, 5, World.object(w.maker));
        Script.due("WRAPPER: through an inward one the argument is wrapped outward", World.held(w.x, w.maker, 1), "object " + w.wrapper);
        Script.due("WRAPPER: one note", w.x.notes(message), 1);
        w.tell(w.wrapper, 6, World.object(w.maker));
        Script.due("WRAPPER: the same inward wrapper the next time", World.held(w.x, w.maker, 2), "object 14");
        Script.due("WRAPPER: through an inward one the answer is wrapped inward", w.tell(14, 8, World.NOTHING), "object 16");
        Script.due("WRAPPER: with a new inward wrapper", detail(w, 16), "10 " + w.membrane + " 1 object 15");
        w.ask(w.maker, 4, World.object(w.maker));
        Script.due("WRAPPER: or with the one that there is", w.tell(14, 0, World.NOTHING), "object 14");
        w.ask(w.maker, 4, World.object(w.wrapper));
        Script.due("WRAPPER: an outward wrapper goes in as its target", w.tell(14, 0, World.NOTHING), "object " + w.maker);
    }

    private static void wrapperTargets() {
        World w = new World();
        int message = w.post(w.wrapper, 8, World.NOTHING);
        int behind = w.post(w.maker, 15, World.NOTHING);
        w.x.turn(1);
        Script.due("WRAPPER: it relays to the end of the queue", w.x.next(1, 0) + " " + w.x.next(1, 1), behind + " " + message);
        Script.due("WRAPPER: with a note", w.x.notes(message), 1);
        World open = new World();
        int wrapper = open.make(open.membrane, 0, World.OPEN);
        int waiting = open.ask(wrapper, 0, World.NOTHING);
        Script.due("WRAPPER: relayed to an open promise it waits there", open.x.place(waiting) + " " + open.x.notes(waiting), "2 1");
        Script.due("WRAPPER: at that one", open.x.waiting(open.x.which(wrapper, 4)), 1);
        open.x.introduce(open.sleeper, 0, open.sleeper);
        open.x.turn(2);
        Script.due("WRAPPER: and goes on from there", open.x.next(2, 0), waiting);
        open.x.turn(2);
        Script.due("WRAPPER: its answer is wrapped, and the wrapper's target counts as it", World.result(open.x, waiting), "object " + wrapper);
    }

    /** Wrappers of wrappers, each of another membrane: so many notes as there are layers. */
    private static void notesUpToEight() {
        for (int layers : new int[] {1, 7, 8, 9}) {
            World w = new World();
            int outermost = layered(w, layers);
            int message = w.ask(outermost, 4, World.number(layers));
            Script.due("20: notes after " + layers + " wrappers", w.x.notes(message), Math.min(8, layers));
            Script.due("WRAPPER: broken when the message has 8 notes already: " + layers, World.result(w.x, message), layers > 8 ? "broken" : "number 0");
            Script.due("WRAPPER: the target is asked or not", World.held(w.x, w.maker, 0), layers > 8 ? "nothing" : "number " + layers);
        }
        World w = new World();
        int outermost = layered(w, 9);
        int before = w.x.objects();
        int message = w.ask(outermost, 4, World.object(w.asker));
        Script.due("WRAPPER: eight wrap the argument, the ninth does not", w.x.objects() - before, 8);
        Script.due("WRAPPER: and is broken", World.result(w.x, message), "broken");
    }

    private static int layered(World w, int layers) {
        int outermost = w.wrapper;
        for (int layer = 2; layer <= layers; layer++) {
            outermost = w.make(w.make(w.maker, 12, World.NOTHING), 0, World.object(outermost));
        }
        return outermost;
    }

    private static void revokedWhenAsked() {
        World w = new World();
        int inward = inwardFor(w, w.asker);
        w.tell(w.membrane, 1, World.NOTHING);
        String before = w.others();
        for (int verb = 0; verb <= 15; verb++) {
            int message = w.ask(w.wrapper, verb, World.object(w.sleeper));
            Script.due("WRAPPER: broken when its membrane is revoked, verb " + verb, World.result(w.x, message), "broken");
            Script.due("WRAPPER: with no note", w.x.notes(message), 0);
        }
        Script.due("WRAPPER: an inward one, too", w.tell(inward, 8, World.object(w.sleeper)), "broken");
        Script.due("WRAPPER: no argument is wrapped and no target asked", w.others(), before);
        int other = w.make(w.maker, 12, World.NOTHING);
        Script.due("WRAPPER: one of another membrane is not", w.tell(w.make(other, 0, World.object(w.maker)), 5, World.number(1)), "number 0");
    }

    private static void revokedMembrane() {
        World w = new World();
        Script.due("MEMBRANE: 0 when it is not revoked", w.tell(w.membrane, 2, World.NOTHING), "number 0");
        Script.due("MEMBRANE: revoked", w.tell(w.membrane, 1, World.number(9)), "number 0");
        Script.due("MEMBRANE: 1 when it is revoked", w.tell(w.membrane, 2, World.NOTHING), "number 1");
        Script.due("MEMBRANE: revoked a second time", w.tell(w.membrane, 1, World.NOTHING), "number 0");
        Script.due("MEMBRANE: it stays revoked", w.tell(w.membrane, 2, World.NOTHING), "number 1");
        Script.due("MEMBRANE: it wraps when it is revoked", w.tell(w.membrane, 0, World.object(w.maker)), "object " + w.wrapper);
        Script.due("MEMBRANE: with a new wrapper, too", w.tell(w.membrane, 0, World.object(w.asker)), "object 13");
        Script.due("MEMBRANE: which is broken from the first", w.tell(13, 0, World.NOTHING), "broken");
    }

    private static void answersAsNoted() {
        World w = new World();
        w.x.number(w.maker, 0, Integer.MIN_VALUE);
        w.x.introduce(w.maker, 1, w.maker);
        w.x.introduce(w.maker, 2, inwardFor(w, w.asker, 3));
        Script.due("an answer with a note: a number", w.tell(w.wrapper, 0, World.NOTHING), "number " + Integer.MIN_VALUE);
        Script.due("an answer with a note: broken", w.tell(w.wrapper, 13, World.NOTHING), "broken");
        Script.due("an answer with a note: what has its wrapper", w.tell(w.wrapper, 1, World.NOTHING), "object " + w.wrapper);
        Script.due("an answer with a note: what came in goes out as it was", w.tell(w.wrapper, 2, World.NOTHING), "object " + w.asker);
        w.x.introduce(w.maker, 2, w.wrapper);
        Script.due("an answer with a note: an outward wrapper stays", w.tell(w.wrapper, 2, World.NOTHING), "object " + w.wrapper);
        Script.due("an answer with a note: no wrapper was needed", w.x.objects(), 14);
        Script.due("an answer with a note: a new object has a new wrapper", w.tell(w.wrapper, 8, World.NOTHING), "object 15");
        Script.due("an answer with a note: outward", detail(w, 15), "10 " + w.membrane + " 0 object 14");
        w.ask(w.maker, 4, World.OPEN);
        String open = World.held(w.x, w.maker, 0);
        Script.due("an answer with a note: an open promise has a wrapper", w.tell(w.wrapper, 0, World.NOTHING), "object 16");
        Script.due("an answer with a note: for it", detail(w, 16), "10 " + w.membrane + " 0 " + open);
        Script.due("an answer with a note: broken when there is nothing in a slot", w.tell(w.wrapper, 3, World.NOTHING), "broken");
    }

    private static void latestNoteFirst() {
        World w = new World();
        int other = w.make(w.maker, 12, World.NOTHING);
        int outer = w.make(other, 0, World.object(w.wrapper));
        int message = w.ask(outer, 8, World.NOTHING);
        Script.due("the latest note first: the inner membrane's wrapper", detail(w, 16), "10 " + w.membrane + " 0 object 15");
        Script.due("then the one before: the outer membrane's", detail(w, 17), "10 " + other + " 0 object 16");
        Script.due("the answer is the last of them", World.result(w.x, message), "object 17");
        Script.due("20: its notes stay", w.x.notes(message), 2);
    }

    private static void revokedByThen() {
        revokedOnTheWay("none", 3, "object 19");
        revokedOnTheWay("inner", 1, "broken");
        revokedOnTheWay("outer", 2, "broken");
        revokedOnTheWay("both", 1, "broken");
        World own = new World();
        int wrapped = own.make(own.membrane, 0, World.object(own.membrane));
        Script.due("a membrane that is revoked through its wrapper answers with broken", own.tell(wrapped, 1, World.NOTHING), "broken");
        Script.due("and is revoked", own.x.detail(own.membrane, 0), 1);
    }

    /** The message goes through two wrappers of vat 1 to a cell of vat 0; then membranes are revoked; then it answers. */
    private static void revokedOnTheWay(String which, int made, String answer) {
        World w = new World();
        int far = w.x.cell(0);
        int other = w.make(w.maker, 12, World.NOTHING);
        int outer = w.make(other, 0, World.object(w.make(w.membrane, 0, World.object(far))));
        int message = w.post(outer, 8, World.NOTHING);
        w.x.turn(1);
        w.x.turn(1);
        if (which.equals("inner") || which.equals("both")) {
            w.post(w.membrane, 1, World.NOTHING);
            w.x.turn(1);
        }
        if (which.equals("outer") || which.equals("both")) {
            w.post(other, 1, World.NOTHING);
            w.x.turn(1);
        }
        Script.due("the cell answers when it is revoked: " + which, w.x.turn(0), message);
        Script.due("broken when a membrane is revoked by then: " + which, World.result(w.x, message), answer);
        Script.due("what was made stays, whatever comes of the next: " + which, w.x.objects(), 17 + made);
        Script.due("the cell has made one: " + which, w.x.kind(17) + " " + w.x.home(17), "0 0");
        Script.due("20: its notes stay: " + which, w.x.notes(message), 2);
    }

    private static void noRoomForArgument() {
        World w = new World();
        w.fillTo(40);
        int message = w.ask(w.wrapper, 4, World.object(w.asker));
        Script.due("with 40 objects the argument is broken", World.held(w.x, w.maker, 0), "broken");
        Script.due("with 40 objects the message is relayed and noted", w.x.notes(message), 1);
        Script.due("with 40 objects it is answered", World.result(w.x, message), "number 0");
        w.ask(w.wrapper, 5, World.OPEN);
        Script.due("with 40 objects an open promise is broken, too", World.held(w.x, w.maker, 1), "broken");
        w.ask(w.wrapper, 6, World.number(3));
        Script.due("with 40 objects a number needs no wrapper", World.held(w.x, w.maker, 2), "number 3");
        w.ask(w.wrapper, 7, World.object(w.wrapper));
        Script.due("with 40 objects nor does a wrapper that is unwrapped", World.held(w.x, w.maker, 3), "object " + w.maker);
        Script.due("with 40 objects there are no more", w.x.objects(), 40);
    }

    private static void noRoomForAnswer() {
        World w = new World();
        w.x.introduce(w.maker, 0, w.box);
        w.x.introduce(w.maker, 1, w.maker);
        w.fillTo(40);
        Script.due("with 40 objects an answer that needs a wrapper is broken", w.tell(w.wrapper, 0, World.NOTHING), "broken");
        Script.due("with 40 objects one that has a wrapper is not", w.tell(w.wrapper, 1, World.NOTHING), "object " + w.wrapper);
        World last = new World();
        last.fillTo(39);
        Script.due("with 39 objects the new one is made and its wrapper is not", last.tell(last.wrapper, 8, World.NOTHING), "broken");
        Script.due("with 39 objects the new one stays", last.x.objects() + " " + last.x.kind(39), "40 0");
        World two = new World();
        two.x.introduce(two.maker, 0, two.box);
        int outer = two.make(two.make(two.maker, 12, World.NOTHING), 0, World.object(two.wrapper));
        two.fillTo(39);
        Script.due("with 39 objects and two notes: broken", two.tell(outer, 0, World.NOTHING), "broken");
        Script.due("a wrapper made for one stays", detail(two, 39), "10 " + two.membrane + " 0 object " + two.box);
    }

    private static void brokenInRouting() {
        World w = new World();
        int wrapper = w.make(w.membrane, 0, World.OPEN);
        int waiting = w.ask(wrapper, 0, World.NOTHING);
        int objects = w.x.objects();
        w.x.turn(2);
        Script.due("broken in routing: its target came to be broken", World.result(w.x, waiting), "broken");
        int later = w.ask(wrapper, 4, World.number(1));
        Script.due("broken in routing: its target is broken", World.result(w.x, later), "broken");
        Script.due("broken in routing: the notes change nothing", w.x.notes(waiting) + " " + w.x.notes(later), "1 1");
        Script.due("broken in routing: no wrapper is made", w.x.objects(), objects);
    }

    /** The inward wrapper for an object, which the maker has in its slot 0 or another one. */
    private static int inwardFor(World w, int object) {
        return inwardFor(w, object, 0);
    }

    private static int inwardFor(World w, int object, int slot) {
        w.ask(w.wrapper, 4 + slot, World.object(object));
        int inward = w.x.which(w.maker, slot);
        w.ask(w.maker, 4 + slot, World.NOTHING);
        return inward;
    }

    /** Kind, both details and target. */
    private static String detail(World w, int object) {
        return w.x.kind(object) + " " + w.x.detail(object, 0) + " " + w.x.detail(object, 1) + " " + World.held(w.x, object, 4);
    }
}
