import java.util.ArrayList;
import java.util.LinkedList;
import java.util.List;

/** The document's words in their plainest form, with the whole Java library: what RandomRunsTest compares with. */
final class PlainVats {
    /** A reference: an Integer is a number, null is nothing. */
    enum Mark { BROKEN }

    static final class Thing {
        int number;
        int kind;
        int home;
        final Object[] slots = new Object[5];
        Thing of;
        Thing facet;
        boolean revoked;
        boolean inward;
        int balance;
    }

    static final class Message {
        int number;
        Object target;
        int verb;
        Object argument;
        boolean resolved;
        Object answer;
        Message waitsAt;
        final LinkedList<Message> waiters = new LinkedList<>();
        final List<Thing> membranes = new ArrayList<>();
        final List<Boolean> inwards = new ArrayList<>();
    }

    final List<Thing> things = new ArrayList<>();
    final List<Message> messages = new ArrayList<>();
    final List<LinkedList<Message>> queues = List.of(new LinkedList<>(), new LinkedList<>(), new LinkedList<>());

    int call(String name, int... a) {
        return switch (name) {
            case "cell" -> a[0] < 0 || a[0] > 2 ? -1 : things.size() == 40 ? -2 : make(0, a[0], null).number;
            case "number" -> put(a[0], a[1], a[2]);
            case "introduce" -> thing(a[2]) == null ? 0 : put(a[0], a[1], thing(a[2]));
            case "send" -> send(a);
            case "turn" -> turn(a[0]);
            case "objects" -> things.size();
            case "kind" -> thing(a[0]) == null ? -1 : thing(a[0]).kind;
            case "home" -> thing(a[0]) == null ? -1 : thing(a[0]).home;
            case "what" -> hasSlot(a[0], a[1]) ? sort(thing(a[0]).slots[a[1]]) : -1;
            case "which" -> hasSlot(a[0], a[1]) ? index(thing(a[0]).slots[a[1]]) : 0;
            case "detail" -> thing(a[0]) == null || a[1] < 0 || a[1] > 1 ? -1 : detail(thing(a[0]), a[1]);
            case "messages" -> messages.size();
            case "place" -> message(a[0]) == null ? -1 : place(message(a[0]));
            case "result" -> message(a[0]) == null ? -1 : sort(message(a[0]));
            case "value" -> message(a[0]) == null ? 0 : index(message(a[0]));
            case "queued" -> a[0] < 0 || a[0] > 2 ? -1 : queues.get(a[0]).size();
            case "next" -> a[0] < 0 || a[0] > 2 || a[1] < 0 || a[1] >= queues.get(a[0]).size()
                    ? -3 : queues.get(a[0]).get(a[1]).number;
            case "waiting" -> message(a[0]) == null ? -1 : message(a[0]).waiters.size();
            case "notes" -> message(a[0]) == null ? -1 : message(a[0]).membranes.size();
            default -> throw new IllegalArgumentException(name);
        };
    }

    private Thing thing(int n) {
        return n < 0 || n >= things.size() ? null : things.get(n);
    }

    private Message message(int n) {
        return n < 0 || n >= messages.size() ? null : messages.get(n);
    }

    private boolean hasSlot(int object, int slot) {
        if (thing(object) == null) {
            return false;
        }
        int kind = thing(object).kind;
        return kind == 0 ? slot >= 0 && slot < 4 : slot == 4 && (kind == 2 || kind == 6 || kind == 10);
    }

    private boolean isCellSlot(int object, int slot) {
        return thing(object) != null && thing(object).kind == 0 && slot >= 0 && slot < 4;
    }

    private int put(int cell, int slot, Object what) {
        if (!isCellSlot(cell, slot)) {
            return 0;
        }
        thing(cell).slots[slot] = what;
        return 1;
    }

    private static Object meant(Object reference) {
        return reference instanceof Message m && m.resolved ? meant(m.answer) : reference;
    }

    private static int sort(Object reference) {
        Object meant = meant(reference);
        return meant == null ? 0 : meant instanceof Integer ? 1 : meant instanceof Thing ? 2 : meant instanceof Message ? 3 : 4;
    }

    private static int index(Object reference) {
        Object meant = meant(reference);
        return meant instanceof Integer i ? i : meant instanceof Thing t ? t.number : meant instanceof Message m ? m.number : 0;
    }

    private static int detail(Thing t, int part) {
        if (part == 0) {
            return switch (t.kind) {
                case 1, 9 -> t.revoked ? 1 : 0;
                case 2, 4, 5, 6, 10 -> t.of.number;
                case 8 -> t.balance;
                default -> 0;
            };
        }
        return t.kind == 1 ? t.facet.number : t.kind == 8 ? t.of.number : t.kind == 10 && t.inward ? 1 : 0;
    }

    private int place(Message m) {
        return m.resolved ? 0 : m.waitsAt == null ? 1 : 2;
    }

    private Thing make(int kind, int home, Thing of) {
        Thing made = new Thing();
        made.number = things.size();
        made.kind = kind;
        made.home = home;
        made.of = of;
        things.add(made);
        return made;
    }

    private int send(int[] a) {
        if (!isCellSlot(a[0], a[1]) || a[2] < 0 || a[2] > 15 || a[3] < -1 || a[3] > 3 || a[4] < -1 || a[4] > 3) {
            return -1;
        }
        if (messages.size() == 200) {
            return -2;
        }
        Message m = new Message();
        m.number = messages.size();
        m.target = thing(a[0]).slots[a[1]];
        m.verb = a[2];
        m.argument = a[3] < 0 ? null : thing(a[0]).slots[a[3]];
        messages.add(m);
        if (a[4] >= 0) {
            thing(a[0]).slots[a[4]] = m;
        }
        route(m);
        return m.number;
    }

    private void route(Message m) {
        Object to = meant(m.target);
        m.waitsAt = null;
        if (to instanceof Thing t) {
            queues.get(t.home).add(m);
        } else if (to instanceof Message open) {
            open.waiters.add(m);
            m.waitsAt = open;
        } else {
            resolve(m, Mark.BROKEN);
        }
    }

    private void resolve(Message m, Object answer) {
        Object to = meant(answer);
        m.answer = to == m || to == null ? Mark.BROKEN : to;
        m.resolved = true;
        List<Message> waited = new ArrayList<>(m.waiters);
        m.waiters.clear();
        waited.forEach(this::route);
    }

    private int turn(int vat) {
        if (vat < 0 || vat > 2) {
            return -1;
        }
        if (queues.get(vat).isEmpty()) {
            return -3;
        }
        Message m = queues.get(vat).removeFirst();
        Thing t = (Thing) meant(m.target);
        if (t.kind == 2 && !t.of.revoked) {
            m.target = t.slots[4];
            route(m);
        } else if (t.kind == 10 && !t.of.revoked && m.membranes.size() < 8) {
            m.argument = wrap(m.argument, t.of, !t.inward);
            m.membranes.add(t.of);
            m.inwards.add(t.inward);
            m.target = t.slots[4];
            route(m);
        } else {
            Object answer = answer(t, m.verb, meant(m.argument));
            for (int i = m.membranes.size() - 1; i >= 0; i--) {
                answer = m.membranes.get(i).revoked ? Mark.BROKEN : wrap(answer, m.membranes.get(i), m.inwards.get(i));
            }
            resolve(m, answer);
        }
        return m.number;
    }

    private Object wrap(Object reference, Thing membrane, boolean inward) {
        Object meant = meant(reference);
        if (meant instanceof Thing t && t.kind == 10 && t.of == membrane) {
            return t.inward == inward ? t : t.slots[4];
        }
        if (!(meant instanceof Thing) && !(meant instanceof Message)) {
            return meant;
        }
        for (Thing t : things) {
            if (t.kind == 10 && t.of == membrane && t.inward == inward && meant(t.slots[4]) == meant) {
                return t;
            }
        }
        if (things.size() == 40) {
            return Mark.BROKEN;
        }
        Thing made = make(10, membrane.home, membrane);
        made.inward = inward;
        made.slots[4] = meant;
        return made;
    }

    private Object answer(Thing t, int verb, Object arg) {
        boolean full = things.size() == 40;
        switch (t.kind * 16 + verb) {
            case 0, 1, 2, 3:
                return t.slots[verb] == null ? Mark.BROKEN : t.slots[verb];
            case 4, 5, 6, 7:
                t.slots[verb - 4] = arg;
                return 0;
            case 8:
                return full ? Mark.BROKEN : make(0, t.home, null);
            case 9:
                if (things.size() >= 39) {
                    return Mark.BROKEN;
                }
                Thing gate = make(1, t.home, null);
                gate.facet = make(2, t.home, gate);
                gate.facet.slots[4] = arg;
                return gate;
            case 10:
                return full ? Mark.BROKEN : make(3, t.home, null);
            case 11:
                return full ? Mark.BROKEN : make(7, t.home, null);
            case 12:
                return full ? Mark.BROKEN : make(9, t.home, null);
            case 16:
                return t.facet;
            case 16 + 1, 9 * 16 + 1:
                t.revoked = true;
                return 0;
            case 16 + 2, 9 * 16 + 2:
                return t.revoked ? 1 : 0;
            case 3 * 16, 3 * 16 + 1:
                return full ? Mark.BROKEN : make(4 + verb, t.home, t);
            case 4 * 16:
                if (full) {
                    return Mark.BROKEN;
                }
                Thing box = make(6, t.home, t.of);
                box.slots[4] = arg;
                return box;
            case 5 * 16:
                boolean opens = arg instanceof Thing b && b.kind == 6 && b.of == t.of && b.slots[4] != null;
                return opens ? ((Thing) arg).slots[4] : Mark.BROKEN;
            case 7 * 16:
                return arg instanceof Integer n && n >= 0 && n <= 1000000 && !full ? purse(t.home, t, n) : Mark.BROKEN;
            case 8 * 16:
                return t.balance;
            case 8 * 16 + 1:
                return full ? Mark.BROKEN : purse(t.home, t.of, 0);
            case 8 * 16 + 2:
                if (!(arg instanceof Thing p) || p.kind != 8 || p == t || p.of != t.of) {
                    return Mark.BROKEN;
                }
                int all = p.balance;
                p.balance = 0;
                t.balance += all;
                return all;
            case 8 * 16 + 3:
                if (!(arg instanceof Integer n) || n < 0 || n > t.balance || full) {
                    return Mark.BROKEN;
                }
                t.balance -= n;
                return purse(t.home, t.of, n);
            case 9 * 16:
                return wrap(arg, t, false);
            default:
                return Mark.BROKEN;
        }
    }

    private Thing purse(int home, Thing mint, int balance) {
        Thing made = make(8, home, mint);
        made.balance = balance;
        return made;
    }
}
