import java.util.Random;

/** Four clocks: tables stay closed, calls agree with one another, undo brings back what was. */
public final class LawsTest {
    private static final Probe PROBE = new Probe("laws of four clocks");
    private static final String[] RELS = {"<", "<=", "=", ">=", ">"};
    private static final int PLACES = 4;
    private static final int EDGES = 8;

    private static String rules(Random dice) {
        StringBuilder text = new StringBuilder();
        for (int k = dice.nextInt(3); k > 0; k--) {
            text.append(" when ").append((char) ('a' + dice.nextInt(4))).append(RELS[dice.nextInt(5)]).append(dice.nextInt(20));
        }
        return text.toString();
    }

    private static String text(Random dice) {
        StringBuilder text = new StringBuilder("clock a;clock b;clock c;clock d;");
        for (int p = 0; p < PLACES; p++) {
            text.append("place p").append((char) ('a' + p)).append(dice.nextBoolean() ? rules(dice) : "").append(";");
        }
        for (int e = 0; e < EDGES; e++) {
            text.append("edge p").append((char) ('a' + dice.nextInt(PLACES))).append(" p").append((char) ('a' + dice.nextInt(PLACES)));
            text.append(rules(dice));
            for (int c = 0; c < 4; c++) {
                if (dice.nextInt(3) == 0) {
                    text.append(" set ").append((char) ('a' + c)).append(" ").append(dice.nextInt(9));
                }
            }
            text.append(";");
        }
        return text.toString();
    }

    private static int change(Random dice, ClockZones z) {
        int t = dice.nextInt(3);
        switch (dice.nextInt(14)) {
            case 0:
                z.lay(t, dice.nextInt(5) == 0 ? 2 : dice.nextInt(2));
                break;
            case 1:
            case 2:
                int x = dice.nextInt(5) - 1;
                int y = (x + 2 + dice.nextInt(4)) % 5 - 1;
                z.meet(t, x, y, dice.nextInt(5), x < 0 ? -dice.nextInt(30) : y < 0 ? dice.nextInt(30) : dice.nextInt(41) - 20);
                break;
            case 3:
                z.pass(t, 0);
                break;
            case 4:
                z.pass(t, 1);
                break;
            case 5:
                z.reset(t, dice.nextInt(4), dice.nextInt(20));
                break;
            case 6:
                z.free(t, dice.nextInt(4));
                break;
            case 7:
                z.copy(t, dice.nextInt(3));
                break;
            case 8:
                z.join(t, dice.nextInt(3));
                break;
            case 9:
                z.both(t, dice.nextInt(3));
                break;
            case 10:
                z.step(t, dice.nextInt(EDGES));
                break;
            case 11:
                z.stay(t, dice.nextInt(PLACES));
                break;
            case 12:
                z.rough(t);
                break;
            default:
                z.back(t, dice.nextInt(EDGES));
        }
        return t;
    }

    /** A bound as one number: twice it, one more if it is reached; none is a million. */
    private static long raw(ClockZones z, int t, int x, int y) {
        if (x == y) {
            return 1;
        }
        int n = z.bound(t, x, y, 0);
        return n == 1000 ? 1000000 : 2L * n + z.bound(t, x, y, 1);
    }

    private static long together(long a, long b) {
        return a >= 1000000 || b >= 1000000 ? 1000000 : a + b - ((a | b) & 1);
    }

    private static void closed(ClockZones z, int t) {
        if (z.empty(t) == 1) {
            return;
        }
        int alone = 0;
        for (int x = -1; x < 4; x++) {
            PROBE.holds("no clock is below 0", raw(z, t, -1, x) <= 1);
            for (int y = -1; y < 4; y++) {
                boolean follows = false;
                for (int v = -1; v < 4; v++) {
                    long through = together(raw(z, t, x, v), raw(z, t, v, y));
                    if (through < raw(z, t, x, y)) {
                        PROBE.due("closed " + x + " " + v + " " + y, raw(z, t, x, y), through);
                    }
                    follows |= v != x && v != y && through <= raw(z, t, x, y);
                }
                alone += x != y && !follows && raw(z, t, x, y) < 1000000 ? 1 : 0;
                if (x != y) {
                    long wide = together(raw(z, t, x, y), raw(z, t, y, x));
                    PROBE.due("width", wide >= 1000000 ? 1000 : wide >> 1, z.width(t, x, y, 0));
                    PROBE.due("width reached", wide >= 1000000 ? 0 : wide & 1, z.width(t, x, y, 1));
                }
            }
        }
        PROBE.due("pairs alone", alone, z.pairs(t, 2));
    }

    private static void same(String what, ClockZones z, int t, int u) {
        PROBE.due(what + " has all", 1, z.within(t, u));
        PROBE.due(what + " has no more", 1, z.within(u, t));
    }

    /** Table 3 is worked out step by step, and compared with the one call on table t. */
    private static void agree(Random dice, ClockZones z, int t) {
        int e = dice.nextInt(EDGES);
        int p = z.edge(e, 1);
        z.copy(3, t);
        for (int k = 0; k < z.edge(e, 2); k++) {
            z.meet(3, z.when(e, k, 0), -1, z.when(e, k, 1), z.when(e, k, 2));
        }
        for (int k = 0; k < z.edge(e, 3); k++) {
            z.reset(3, z.set(e, k, 0), z.set(e, k, 1));
        }
        int other = (t + 1) % 3;
        // What comes behind the sets touches a table just where its back() touches what was ahead.
        z.copy(other, t);
        z.pass(other, dice.nextInt(2));
        z.free(other, dice.nextInt(4));
        int touch = touchInStay(z, 3, other, p);
        if (touch >= 0 && z.back(other, e) != -2) {
            PROBE.due("back and forth", touch, z.touch(other, t));
        }
        z.stay(3, p);
        z.copy(other, t);
        if (z.step(other, e) >= 0) {
            same("step", z, other, 3);
        }
        z.copy(3, t);
        z.pass(3, 0);
        PROBE.due("up has it", 1, z.within(3, t));
        z.copy(3, t);
        z.pass(3, 1);
        PROBE.due("down has it", 1, z.within(3, t));
        z.copy(3, t);
        z.rough(3);
        PROBE.due("rough has it", 1, z.within(3, t));
        z.copy(3, t);
        z.join(3, (t + 2) % 3);
        PROBE.due("join has it", 1, z.within(3, t));
        PROBE.due("join has the other", 1, z.within(3, (t + 2) % 3));
    }

    /** Whether two tables and a place's stay have times in common; -1 if that can't be told. */
    private static int touchInStay(ClockZones z, int t, int u, int p) {
        int spare = (u + 1) % 3;
        z.copy(spare, u);
        int answer = z.both(spare, t);
        if (answer > 0) {
            int kept = z.stay(spare, p);
            answer = kept < 0 ? -1 : kept;
        }
        z.undo();
        return answer == -2 ? -1 : answer;
    }

    private static long snapshot(ClockZones z) {
        long all = 17;
        for (int t = 0; t < 4; t++) {
            for (int x = -1; x < 4; x++) {
                for (int y = -1; y < 4; y++) {
                    all = all * 31 + z.bound(t, x, y, 0);
                    all = all * 31 + z.bound(t, x, y, 1);
                }
            }
        }
        for (int i = -1; i < 20; i++) {
            all = all * 31 + z.trace(i);
        }
        return all * 31 + z.can() + z.window(0, 2);
    }

    private static void undone(Random dice, ClockZones z) {
        java.util.ArrayDeque<Long> states = new java.util.ArrayDeque<>();
        int undos = 0;
        while (z.undo() >= 0) {
            undos++;
        }
        PROBE.holds("16 undos at most", undos <= 16);
        for (int k = 0; k < 60; k++) {
            long before = snapshot(z);
            int many = z.count(6);
            if (dice.nextInt(4) == 0) {
                PROBE.due("undo", states.isEmpty() ? -1 : states.size() - 1, z.undo());
                PROBE.due("as it was", states.isEmpty() ? before : states.pollLast(), snapshot(z));
                continue;
            }
            boolean done;
            switch (dice.nextInt(5)) {
                case 0:
                    done = z.add(dice.nextInt(EDGES)) > 0;
                    break;
                case 1:
                    done = z.lead(dice.nextInt(PLACES + 1) - 1) >= 0;
                    break;
                case 2:
                    done = z.take(dice.nextInt(4), dice.nextInt(3)) >= 0;
                    break;
                case 3:
                    done = z.lay(dice.nextInt(5), dice.nextInt(4));
                    break;
                default:
                    done = z.step(dice.nextInt(4), dice.nextInt(EDGES)) >= 0;
            }
            if (done) {
                states.addLast(before);
                if (states.size() > 16) {
                    states.pollFirst();
                }
            } else {
                PROBE.due("nothing happened", before, snapshot(z));
                PROBE.due("nothing to undo", many, z.count(6));
            }
            PROBE.due("undos", states.size(), z.count(6));
        }
    }

    public static void main(String[] args) {
        for (int seed = 0; seed < 400 && PROBE.wrongSoFar() == 0; seed++) {
            Random dice = new Random(seed);
            ClockZones z = Probe.of(text(dice));
            for (int k = 0; k < 25; k++) {
                int t = change(dice, z);
                closed(z, t);
                if (k % 5 == 4) {
                    agree(dice, z, t);
                }
            }
            undone(dice, z);
        }
        PROBE.end();
    }
}
