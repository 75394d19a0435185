import java.util.ArrayList;
import java.util.List;
import java.util.Random;

/** Tables and nodes beside sets of points that know nothing of bounds. */
public final class RegionsTest {
    private static final Probe PROBE = new Probe("tables and nodes beside points");

    private static void sameBounds(String what, ClockZones z, int t, Regions set) {
        for (int a = -1; a < 2; a++) {
            for (int b = -1; b < 2; b++) {
                if (a != b) {
                    int[] want = set.bound(a, b);
                    PROBE.due(what + " bound " + a + " " + b, want[0], z.bound(t, a, b, 0));
                    PROBE.due(what + " reached " + a + " " + b, want[1], z.bound(t, a, b, 1));
                }
            }
        }
    }

    private static void sameAnswers(String what, ClockZones z, int t, Regions set) {
        PROBE.due(what + " empty", set.isEmpty() ? 1 : 0, z.empty(t));
        for (int a = 0; a < 18; a++) {
            for (int b = 0; b < 18; b++) {
                if (set.holds(4 * a, 4 * b) != (z.has(t, a, b, 0, 0) == 1)) {
                    PROBE.due(what + " has " + a + " " + b, set.holds(4 * a, 4 * b) ? 1 : 0, z.has(t, a, b, 0, 0));
                }
            }
        }
        int[] first = new int[2];
        PROBE.due(what + " whole 4", set.whole(4, first), z.whole(t, 4));
        PROBE.due(what + " whole 9", set.whole(9, first), z.whole(t, 9));
        set.whole(Regions.EDGE, first);
        PROBE.due(what + " first x", first[0], z.first(t, 0));
        PROBE.due(what + " first y", first[1], z.first(t, 1));
        int single = 0;
        int bounded = 0;
        int reached = 0;
        for (int a = -1; a < 2; a++) {
            for (int b = -1; b < 2; b++) {
                int[] ab = a == b ? new int[] {1000, 0} : set.bound(a, b);
                bounded += ab[0] < 1000 ? 1 : 0;
                reached += ab[1] == 1 ? 1 : 0;
                if (a >= 0 && b < 0 && ab[0] == -set.bound(b, a)[0]) {
                    single |= 1 << a;
                }
            }
        }
        PROBE.due(what + " single", set.isEmpty() ? -2 : single, z.single(t));
        PROBE.due(what + " pairs", set.isEmpty() ? -2 : bounded, z.pairs(t, 0));
        PROBE.due(what + " pairs reached", set.isEmpty() ? -2 : reached, z.pairs(t, 1));
    }

    private static boolean isFar(ClockZones z, int t) {
        for (int a = -1; a < 2; a++) {
            for (int b = -1; b < 2; b++) {
                int n = a == b ? 0 : z.bound(t, a, b, 0);
                if (n != 1000 && n != -1000 && Math.abs(n) > 6) {
                    return true;
                }
            }
        }
        return false;
    }

    private static void tables(Random dice) {
        Sketch s = new Sketch(dice, 3, 4, 4);
        String text = s.text();
        ClockZones z = Probe.of(text);
        Regions[] sets = {Regions.zero(), Regions.zero(), Regions.zero(), Regions.zero()};
        StringBuilder story = new StringBuilder(text);
        for (int k = 0; k < 14; k++) {
            int t = dice.nextInt(3);
            int u = dice.nextInt(3);
            Regions next = change(dice, z, sets, t, u, s, story).settled();
            if (next.isEmpty() != (z.empty(t) == 1)) {
                PROBE.due(story + ": empty", next.isEmpty() ? 1 : 0, z.empty(t));
            }
            // What comes near the edge of the points can't be told by them.
            if (isFar(z, t)) {
                z.undo();
                continue;
            }
            sets[t] = next;
            sameBounds(story.toString(), z, t, next);
            sameAnswers(story.toString(), z, t, next);
            PROBE.due(story + " within", sets[t].hasAllOf(sets[u]) ? 1 : 0, z.within(t, u));
            PROBE.due(story + " touch", sets[t].both(sets[u]).isEmpty() ? 0 : 1, z.touch(t, u));
            int p = dice.nextInt(s.places);
            int e = dice.nextInt(s.from.length);
            for (int what = 0; what < 2; what++) {
                PROBE.due(story + " longest " + p, sets[t].longest(s.stays[p])[what], z.longest(t, p, what));
                PROBE.due(story + " soonest " + e, sets[t].soonest(s.stays[s.from[e]], s.whens[e])[what], z.soonest(t, e, what));
            }
        }
    }

    private static Regions change(Random dice, ClockZones z, Regions[] sets, int t, int u, Sketch s, StringBuilder story) {
        int p = dice.nextInt(s.places);
        int e = dice.nextInt(s.from.length);
        int x = dice.nextInt(2);
        int n = dice.nextInt(4);
        int call = dice.nextInt(13);
        story.append(" | ").append(call).append(" t").append(t).append(" u").append(u).append(" p").append(p)
                .append(" e").append(e).append(" x").append(x).append(" n").append(n);
        switch (call) {
            case 0:
                z.lay(t, n % 2);
                return n % 2 == 0 ? Regions.zero() : Regions.all();
            case 1:
                z.pass(t, 0);
                return sets[t].up();
            case 2:
                z.pass(t, 1);
                return sets[t].down();
            case 3:
                z.reset(t, x, n);
                return sets[t].set(x, n);
            case 4:
                z.free(t, x);
                return sets[t].free(x);
            case 5:
                z.copy(t, u);
                return sets[u].copy();
            case 6:
                z.join(t, u);
                return sets[t].join(sets[u]);
            case 7:
                z.both(t, u);
                return sets[t].both(sets[u]);
            case 8:
                z.step(t, e);
                return sets[t].keep(s.whens[e]).setAll(s.sets[e]).stay(s.stays[s.to[e]]);
            case 9:
                z.stay(t, p);
                return sets[t].stay(s.stays[p]);
            case 10:
                z.rough(t);
                return sets[t].rough(s.great);
            case 11:
                z.back(t, e);
                return sets[t].keep(s.stays[s.to[e]]).before(s.sets[e]).keep(s.whens[e]);
            default:
                int a = dice.nextInt(3) - 1;
                int b = (a + 2 + dice.nextInt(2)) % 3 - 1;
                int rel = dice.nextInt(5);
                int m = a < 0 ? -n : b < 0 ? n : n - 2;
                story.append(" a").append(a).append(" b").append(b).append(" rel").append(rel).append(" m").append(m);
                z.meet(t, a, b, rel, m);
                return sets[t].meet(a, b, rel, m);
        }
    }

    private static void nodes(Random dice) {
        Sketch s = new Sketch(dice, 4, 5, 3);
        ClockZones z = Probe.of(s.text());
        List<Regions> sets = new ArrayList<>();
        List<int[]> nodes = new ArrayList<>();
        Regions first = Regions.zero().stay(s.stays[s.start]).rough(s.great);
        if (!first.isEmpty()) {
            sets.add(first);
            nodes.add(new int[] {s.start, -2, -2, 0});
        }
        for (int k = 0; k < nodes.size(); k++) {
            int open = 0;
            for (int e = 0; e < s.from.length; e++) {
                if (s.from[e] == nodes.get(k)[0]) {
                    Regions exact = sets.get(k).keep(s.whens[e]).setAll(s.sets[e]).stay(s.stays[s.to[e]]).settled();
                    open |= exact.isEmpty() ? 0 : 1 << e;
                    Regions next = exact.rough(s.great);
                    boolean isNew = !next.isEmpty();
                    for (int i = 0; i < nodes.size(); i++) {
                        isNew = isNew && !(nodes.get(i)[0] == s.to[e] && sets.get(i).hasAllOf(next));
                    }
                    if (isNew) {
                        sets.add(next);
                        nodes.add(new int[] {s.to[e], k, e, nodes.get(k)[3] + 1});
                    }
                }
            }
            PROBE.due(s.text() + " open " + k, open, z.open(k));
        }
        PROBE.due(s.text() + " nodes", nodes.size(), z.nodes());
        for (int k = 0; k < Math.min(nodes.size(), z.nodes()); k++) {
            for (int what = 0; what < 4; what++) {
                PROBE.due(s.text() + " node " + k + " " + what, nodes.get(k)[what], z.node(k, what));
            }
            z.take(0, k);
            sameBounds(s.text() + " node " + k, z, 0, sets.get(k));
        }
    }

    public static void main(String[] args) {
        for (int seed = 0; seed < 500 && PROBE.wrongSoFar() == 0; seed++) {
            tables(new Random(seed));
        }
        for (int seed = 0; seed < 500 && PROBE.wrongSoFar() == 0; seed++) {
            nodes(new Random(1000 + seed));
        }
        PROBE.end();
    }
}
