import java.util.ArrayList;
import java.util.List;

/** "What objects answer": each kind and verb at its edges, with wrong arguments, and with no room for new objects. */
public final class KindBoundsTest {
    public static void main(String[] args) {
        cellSlots();
        cellMakes();
        gateAndFacet();
        facetTargets();
        seals();
        unsealsBoxesAlone();
        mints();
        mintsNumbersAlone();
        purseDeposits();
        purseDepositsPursesAlone();
        purseSplits();
        purseSplitsNumbersAlone();
        balancesAddUp();
        resolvedArguments();
        homes();
        noRoom();
        roomForOne();
        roomForTwo();
        Script.end();
    }

    private static void cellSlots() {
        for (int slot = 0; slot <= 3; slot++) {
            World w = new World();
            Script.due("CELL: broken when there is nothing in slot " + slot, w.tell(w.maker, slot, World.NOTHING), "broken");
            Script.due("CELL: a number comes in", w.tell(w.maker, 4 + slot, World.number(0)), "number 0");
            Script.due("CELL: 0 is not nothing", w.tell(w.maker, slot, World.NOTHING), "number 0");
            Script.due("CELL: an object comes in", w.tell(w.maker, 4 + slot, World.object(w.box)), "number 0");
            Script.due("CELL: what is in that slot", w.tell(w.maker, slot, World.NOTHING), "object " + w.box);
            Script.due("CELL: broken comes in", w.tell(w.maker, 4 + slot, World.BROKEN), "number 0");
            Script.due("CELL: broken is in the slot", World.held(w.x, w.maker, slot), "broken");
            Script.due("CELL: an open promise comes in", w.tell(w.maker, 4 + slot, World.OPEN), "number 0");
            String open = World.held(w.x, w.maker, slot);
            Script.due("CELL: it is in the slot", open.startsWith("open "), true);
            Script.due("CELL: an open promise is an answer", w.tell(w.maker, slot, World.NOTHING), open);
            Script.due("CELL: nothing comes in", w.tell(w.maker, 4 + slot, World.NOTHING), "number 0");
            Script.due("CELL: nothing is in the slot", World.held(w.x, w.maker, slot), "nothing");
            Script.due("CELL: nor in any other", World.held(w.x, w.maker, (slot + 1) % 4), "nothing");
        }
    }

    private static void cellMakes() {
        int[] kinds = {0, 1, 3, 7, 9};
        for (int verb = 8; verb <= 12; verb++) {
            for (World.Arg arg : List.of(World.NOTHING, World.number(-1), World.BROKEN, World.OPEN)) {
                World w = new World();
                Script.due("CELL: " + verb + " makes one, whatever comes along", w.tell(w.maker, verb, arg), "object 13");
                Script.due("CELL: its kind", w.x.kind(13), kinds[verb - 8]);
                Script.due("CELL: a gate has a facet, and nothing else is made", w.x.objects(), verb == 9 ? 15 : 14);
            }
        }
        World w = new World();
        int cell = w.make(w.maker, 8, World.number(5));
        Script.due("CELL: a new cell, with nothing in it", World.held(w.x, cell, 0) + World.held(w.x, cell, 3), "nothingnothing");
    }

    private static void gateAndFacet() {
        World w = new World();
        Script.due("GATE: its facet", w.tell(w.gate, 0, World.number(5)), "object " + w.facet);
        Script.due("GATE: 0 when it is not revoked", w.tell(w.gate, 2, World.NOTHING), "number 0");
        Script.due("GATE: revoked", w.tell(w.gate, 1, World.BROKEN), "number 0");
        Script.due("GATE: 1 when it is revoked", w.tell(w.gate, 2, World.NOTHING), "number 1");
        Script.due("GATE: revoked a second time", w.tell(w.gate, 1, World.NOTHING), "number 0");
        Script.due("GATE: it stays revoked", w.tell(w.gate, 2, World.NOTHING), "number 1");
        Script.due("GATE: its facet, revoked or not", w.tell(w.gate, 0, World.NOTHING), "object " + w.facet);
        for (int verb = 0; verb <= 15; verb++) {
            String before = w.others();
            Script.due("FACET: broken when its gate is revoked, verb " + verb, w.tell(w.facet, verb, World.number(1)), "broken");
            Script.due("FACET: and its target is not asked", w.others(), before);
        }
        int gate = w.make(w.maker, 9, World.object(w.maker));
        Script.due("FACET: another gate's is not revoked", w.tell(w.make(gate, 0, World.NOTHING), 4, World.number(3)), "number 0");
    }

    private static void facetTargets() {
        for (int verb = 4; verb <= 12; verb++) {
            World w = new World();
            World direct = new World();
            Script.due("FACET: relays every message, verb " + verb, w.tell(w.facet, verb, World.number(1)),
                    direct.tell(direct.maker, verb, World.number(1)));
            Script.due("FACET: the target does as if it were asked itself", w.others(), direct.others());
        }
        for (World.Arg target : List.of(World.NOTHING, World.number(0), World.BROKEN)) {
            World w = new World();
            int facet = w.make(w.make(w.maker, 9, target), 0, World.NOTHING);
            Script.due("FACET: what it relays to " + target.sort() + " is broken in the routing", w.tell(facet, 0, World.NOTHING), "broken");
        }
        World w = new World();
        int facet = w.make(w.make(w.maker, 9, World.OPEN), 0, World.NOTHING);
        int message = w.ask(facet, 0, World.NOTHING);
        Script.due("FACET: what it relays to an open promise waits there", w.x.place(message), 2);
        Script.due("FACET: at that one", w.x.waiting(w.x.which(facet, 4)), 1);
        w.tell(w.x.detail(facet, 0), 1, World.NOTHING);
        w.x.introduce(w.sleeper, 0, w.maker);
        w.x.turn(2);
        Script.due("FACET: what is past it goes on when its gate is revoked", w.x.place(message), 1);
    }

    private static void seals() {
        World w = new World();
        Script.due("SEALER: a box with nothing in it", World.held(w.x, w.make(w.sealer, 0, World.NOTHING), 4), "nothing");
        Script.due("SEALER: a box with broken in it", World.held(w.x, w.make(w.sealer, 0, World.BROKEN), 4), "broken");
        Script.due("SEALER: a box with 0 in it", World.held(w.x, w.make(w.sealer, 0, World.number(0)), 4), "number 0");
        int last = w.x.objects() - 1;
        Script.due("SEALER: a box in a box", World.held(w.x, w.make(w.sealer, 0, World.object(last)), 4), "object " + last);
        Script.due("SEALER: a box for each", w.x.objects(), 17);
        Script.due("UNSEALER: broken when nothing is in it", w.tell(w.unsealer, 0, World.object(13)), "broken");
        Script.due("UNSEALER: broken is in it", w.tell(w.unsealer, 0, World.object(14)), "broken");
        Script.due("UNSEALER: 0 is in it", w.tell(w.unsealer, 0, World.object(15)), "number 0");
        Script.due("UNSEALER: the box in it, unopened", w.tell(w.unsealer, 0, World.object(16)), "object 15");
        Script.due("UNSEALER: as often as it is asked", w.tell(w.unsealer, 0, World.object(16)), "object 15");
        int other = w.make(w.brand, 1, World.NOTHING);
        Script.due("UNSEALER: any of the brand", w.tell(other, 0, World.object(w.box)), "number 60");
    }

    private static void unsealsBoxesAlone() {
        World w = new World();
        int otherBrand = w.make(w.maker, 10, World.NOTHING);
        int otherBox = w.make(w.make(otherBrand, 0, World.NOTHING), 0, World.number(1));
        int otherUnsealer = w.make(otherBrand, 1, World.NOTHING);
        String before = w.others();
        for (World.Arg arg : wrong(w, w.box)) {
            Script.due("UNSEALER: no box, " + arg, w.tell(w.unsealer, 0, arg), "broken");
        }
        Script.due("UNSEALER: a box of another brand", w.tell(w.unsealer, 0, World.object(otherBox)), "broken");
        Script.due("UNSEALER: of another brand", w.tell(otherUnsealer, 0, World.object(w.box)), "broken");
        Script.due("UNSEALER: nothing has changed", w.others(), before);
    }

    private static void mints() {
        for (int balance : new int[] {0, 1, 999999, 1000000}) {
            World w = new World();
            Script.due("MINT: a number from 0 to 1000000: " + balance, w.tell(w.mint, 0, World.number(balance)), "object 13");
            Script.due("MINT: with this balance", w.tell(13, 0, World.NOTHING), "number " + balance);
            Script.due("MINT: of this mint", w.x.detail(13, 1), w.mint);
        }
    }

    private static void mintsNumbersAlone() {
        World w = new World();
        String before = w.others();
        for (int balance : new int[] {Integer.MIN_VALUE, -1, 1000001, Integer.MAX_VALUE}) {
            Script.due("MINT: no such balance as " + balance, w.tell(w.mint, 0, World.number(balance)), "broken");
        }
        for (World.Arg arg : wrong(w, -1)) {
            Script.due("MINT: no number, " + arg, w.tell(w.mint, 0, arg), "broken");
        }
        Script.due("MINT: nothing has changed", w.others(), before);
    }

    private static void purseDeposits() {
        World w = new World();
        int empty = w.make(w.purse, 1, World.number(7));
        Script.due("PURSE: a new one has the balance 0", w.tell(empty, 0, World.NOTHING), "number 0");
        Script.due("PURSE: an empty one goes over: 0", w.tell(w.purse, 2, World.object(empty)), "number 0");
        Script.due("PURSE: and changes nothing", w.x.detail(w.purse, 0) + " " + w.x.detail(empty, 0), "60 0");
        Script.due("PURSE: a full one goes over to an empty one", w.tell(empty, 2, World.object(w.purse)), "number 60");
        Script.due("PURSE: whole", w.x.detail(w.purse, 0) + " " + w.x.detail(empty, 0), "0 60");
        int far = w.make(w.mint, 0, World.number(1000000));
        int further = w.make(w.mint, 0, World.number(1000000));
        Script.due("PURSE: a balance may be more than the most that is minted", w.tell(far, 2, World.object(further)), "number 1000000");
        Script.due("PURSE: 2000000", w.tell(far, 0, World.NOTHING), "number 2000000");
        Script.due("PURSE: nothing is left", w.tell(further, 0, World.NOTHING), "number 0");
    }

    private static void purseDepositsPursesAlone() {
        World w = new World();
        int otherMint = w.make(w.maker, 11, World.NOTHING);
        int other = w.make(otherMint, 0, World.number(60));
        String before = w.others();
        for (World.Arg arg : wrong(w, w.purse)) {
            Script.due("PURSE: no purse, " + arg, w.tell(w.purse, 2, arg), "broken");
        }
        Script.due("PURSE: no other purse, itself", w.tell(w.purse, 2, World.object(w.purse)), "broken");
        Script.due("PURSE: a purse of another mint", w.tell(w.purse, 2, World.object(other)), "broken");
        Script.due("PURSE: of another mint", w.tell(other, 2, World.object(w.purse)), "broken");
        Script.due("PURSE: nothing has changed", w.others(), before);
    }

    private static void purseSplits() {
        for (int amount : new int[] {0, 1, 59, 60}) {
            World w = new World();
            Script.due("PURSE: a number from 0 to its balance: " + amount, w.tell(w.purse, 3, World.number(amount)), "object 13");
            Script.due("PURSE: so much goes", w.tell(13, 0, World.NOTHING), "number " + amount);
            Script.due("PURSE: the rest stays", w.tell(w.purse, 0, World.NOTHING), "number " + (60 - amount));
            Script.due("PURSE: of its mint", w.x.detail(13, 1), w.mint);
        }
        World w = new World();
        int empty = w.make(w.purse, 1, World.NOTHING);
        Script.due("PURSE: 0 of 0", w.tell(empty, 3, World.number(0)), "object 14");
        Script.due("PURSE: 1 of 0", w.tell(empty, 3, World.number(1)), "broken");
        int rich = w.make(w.mint, 0, World.number(1000000));
        w.tell(rich, 2, World.object(w.purse));
        Script.due("PURSE: more than the most that is minted", w.x.detail(w.make(rich, 3, World.number(1000060)), 0), 1000060);
    }

    private static void purseSplitsNumbersAlone() {
        World w = new World();
        String before = w.others();
        for (int amount : new int[] {Integer.MIN_VALUE, -1, 61, 1000000, Integer.MAX_VALUE}) {
            Script.due("PURSE: no such part as " + amount, w.tell(w.purse, 3, World.number(amount)), "broken");
        }
        for (World.Arg arg : wrong(w, -1)) {
            Script.due("PURSE: no number, " + arg, w.tell(w.purse, 3, arg), "broken");
        }
        Script.due("PURSE: nothing has changed", w.others(), before);
    }

    /** As much as 40 objects can hold. */
    private static void balancesAddUp() {
        World w = new World();
        int heir = w.purse;
        int due = 60;
        for (int object = w.x.objects(); object < 40; object++) {
            int made = w.make(w.mint, 0, World.number(1000000));
            Script.due("PURSE: a million goes over", w.tell(heir, 2, World.object(made)), "number 1000000");
            due += 1000000;
        }
        Script.due("PURSE: all the millions", w.tell(heir, 0, World.NOTHING), "number " + due);
        Script.due("PURSE: how many they are", due, 27000060);
    }

    /** An argument that is a promise counts as what this is resolved to: each kind that looks at it sees that. */
    private static void resolvedArguments() {
        String made = """
                cell 0 = 0; cell 1 = 1; introduce 0 0 0 = true; introduce 0 1 1 = true; number 1 0 5 = true
                send 0 0 11 -1 2 = 0; turn 0 = 0; send 0 1 0 -1 3 = 1; turn 1 = 1
                """;
        Script.run("MINT, PURSE: a promise resolved to a number is a number", made + """
                send 0 2 0 3 2 = 2; turn 0 = 2; kind 3 = 8; detail 3 0 = 5
                number 1 0 2 = true; send 0 1 0 -1 3 = 3; turn 1 = 3
                send 0 2 3 3 2 = 4; turn 0 = 4; kind 4 = 8; detail 3 0 = 3; detail 4 0 = 2
                """);
        Script.run("PURSE: a promise resolved to a purse is a purse, and one to itself is itself", made + """
                send 0 2 0 3 1 = 2; send 0 2 0 3 2 = 3; turn 0 = 2; turn 0 = 3; detail 3 0 = 5; detail 4 0 = 5
                send 0 1 2 2 -1 = 4; turn 0 = 4; result 4 = 1; value 4 = 5; detail 3 0 = 10; detail 4 0 = 0
                send 0 1 2 1 -1 = 5; turn 0 = 5; result 5 = 4; detail 3 0 = 10
                """);
        Script.run("UNSEALER: a promise resolved to a box is a box", made + """
                send 0 0 10 -1 2 = 2; turn 0 = 2; send 0 2 0 -1 1 = 3; turn 0 = 3; send 0 1 0 3 1 = 4; turn 0 = 4
                kind 5 = 6; send 0 2 1 -1 2 = 5; turn 0 = 5; send 0 2 0 1 -1 = 6; turn 0 = 6; result 6 = 1; value 6 = 5
                """);
    }

    /** What each maker makes is at home where the maker is, though the asker is in vat 0. */
    private static void homes() {
        for (int vat = 0; vat <= 1; vat++) {
            World w = new World();
            int cell = w.x.cell(vat);
            int gate = w.make(cell, 9, World.object(w.sleeper));
            int brand = w.make(cell, 10, World.NOTHING);
            int sealer = w.make(brand, 0, World.NOTHING);
            int mint = w.make(cell, 11, World.NOTHING);
            int purse = w.make(mint, 0, World.number(9));
            int membrane = w.make(cell, 12, World.NOTHING);
            int[] made = {w.make(cell, 8, World.NOTHING), gate, w.make(gate, 0, World.NOTHING), brand, sealer,
                w.make(brand, 1, World.NOTHING), w.make(sealer, 0, World.object(w.sleeper)), mint, purse,
                w.make(purse, 1, World.NOTHING), w.make(purse, 3, World.number(4)), membrane,
                w.make(membrane, 0, World.object(w.sleeper))};
            for (int object : made) {
                Script.due("the home of the one that makes it, kind " + w.x.kind(object), w.x.home(object), vat);
            }
            Script.due("all of them are new", w.x.objects(), 14 + made.length);
        }
    }

    /** "When there are 40 objects a new one can't be made, and the answer is broken, with nothing changed." */
    private static void noRoom() {
        World w = new World();
        w.fillTo(40);
        String before = w.others();
        int[][] makes = makingVerbs(w);
        for (int[] make : makes) {
            String call = "with 40 objects, kind " + w.x.kind(make[0]) + " verb " + make[1];
            Script.due(call, w.tell(make[0], make[1], World.number(1)), "broken");
            Script.due(call + ": nothing has changed", w.others(), before);
        }
        Script.due("with 40 objects, a membrane's wrapper", w.tell(w.membrane, 0, World.object(w.asker)), "broken");
        Script.due("with 40 objects, a membrane's wrapper of a promise", w.tell(w.membrane, 0, World.OPEN), "broken");
        Script.due("with 40 objects nothing has changed", w.others(), before);
        Script.due("with 40 objects, what makes none is as ever", w.tell(w.gate, 0, World.NOTHING), "object " + w.facet);
        Script.due("with 40 objects, a wrapper that is there", w.tell(w.membrane, 0, World.object(w.maker)), "object " + w.wrapper);
    }

    private static void roomForOne() {
        World w = new World();
        w.fillTo(39);
        String before = w.others();
        Script.due("with 39 objects neither gate nor facet", w.tell(w.maker, 9, World.object(w.maker)), "broken");
        Script.due("with 39 objects neither is made", w.others(), before);
        for (int[] make : makingVerbs(w)) {
            World each = new World();
            each.fillTo(39);
            boolean gate = each.x.kind(make[0]) == 0 && make[1] == 9;
            Script.due("with 39 objects, kind " + each.x.kind(make[0]) + " verb " + make[1],
                    each.tell(make[0], make[1], World.number(1)), gate ? "broken" : "object 39");
            Script.due("with 39 objects, how many there are then", each.x.objects(), gate ? 39 : 40);
        }
        World wrapped = new World();
        wrapped.fillTo(39);
        Script.due("with 39 objects, a wrapper", wrapped.tell(wrapped.membrane, 0, World.object(wrapped.asker)), "object 39");
    }

    private static void roomForTwo() {
        World w = new World();
        w.fillTo(38);
        Script.due("with 38 objects a gate", w.tell(w.maker, 9, World.object(w.maker)), "object 38");
        Script.due("a new gate is made before its facet", w.x.kind(38) + " " + w.x.kind(39), "1 2");
        Script.due("its facet", w.x.detail(38, 1) + " " + w.x.detail(39, 0), "39 38");
        Script.due("with 40 then", w.tell(w.maker, 9, World.object(w.maker)), "broken");
    }

    /** Object and verb of all that is made when the argument is 1. */
    private static int[][] makingVerbs(World w) {
        return new int[][] {{w.maker, 8}, {w.maker, 9}, {w.maker, 10}, {w.maker, 11}, {w.maker, 12}, {w.brand, 0},
            {w.brand, 1}, {w.sealer, 0}, {w.mint, 0}, {w.purse, 1}, {w.purse, 3}};
    }

    /** No number, and no object of the kind of the given one. */
    private static List<World.Arg> wrong(World w, int but) {
        List<World.Arg> args = new ArrayList<>(List.of(World.NOTHING, World.BROKEN, World.OPEN, World.object(w.maker)));
        for (int object : w.noCells()) {
            if (object != but) {
                args.add(World.object(object));
            }
        }
        if (but >= 0) {
            args.add(World.number(but));
            args.add(World.number(0));
        }
        return args;
    }
}
