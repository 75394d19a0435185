import java.util.ArrayList;
import java.util.List;
import java.util.Random;

/** Traces beside all times in quarters, tried one by one. */
public final class TimesTest {
    private static final Probe PROBE = new Probe("traces beside times tried");
    private static final int UNIT = 4;
    private static final int EDGE = 18;

    private static boolean keeps(int[][] rules, int[] clocks) {
        for (int[] r : rules) {
            int d = clocks[r[0]];
            int m = r[2] * UNIT;
            boolean held;
            switch (r[1]) {
                case 0:
                    held = d < m;
                    break;
                case 1:
                    held = d <= m;
                    break;
                case 2:
                    held = d == m;
                    break;
                case 3:
                    held = d >= m;
                    break;
                default:
                    held = d > m;
            }
            if (!held) {
                return false;
            }
        }
        return true;
    }

    /** Lives through the times; what clocks have at each edge goes into values. False where it can't be. */
    private static boolean live(Sketch s, int[] row, int[] times, int many, int[][] values) {
        int[] clocks = {0, 0};
        if (!keeps(s.stays[s.start], clocks)) {
            return false;
        }
        int now = 0;
        for (int i = 0; i < many; i++) {
            int e = row[i];
            if (times[i] < now) {
                return false;
            }
            clocks[0] += times[i] - now;
            clocks[1] += times[i] - now;
            now = times[i];
            values[i][0] = clocks[0];
            values[i][1] = clocks[1];
            if (!keeps(s.stays[s.from[e]], clocks) || !keeps(s.whens[e], clocks)) {
                return false;
            }
            for (int[] set : s.sets[e]) {
                clocks[set[0]] = set[1] * UNIT;
            }
            if (!keeps(s.stays[s.to[e]], clocks)) {
                return false;
            }
        }
        return true;
    }

    /** Least and greatest seen of a number. */
    private static final class Range {
        private int least = Integer.MAX_VALUE;
        private int greatest = Integer.MIN_VALUE;

        private void see(int n) {
            least = Math.min(least, n);
            greatest = Math.max(greatest, n);
        }

        private int answer(int what, int edge) {
            switch (what) {
                case 0:
                    return Math.floorDiv(least, UNIT);
                case 1:
                    return least % UNIT == 0 ? 1 : 0;
                case 2:
                    return greatest >= edge ? 10000 : -Math.floorDiv(-greatest, UNIT);
                default:
                    return greatest < edge && greatest % UNIT == 0 ? 1 : 0;
            }
        }
    }

    private static boolean next(int[] times, int many, int step) {
        for (int i = many - 1; i >= 0; i--) {
            times[i] += step;
            if (times[i] <= EDGE * UNIT) {
                return true;
            }
            times[i] = 0;
        }
        return false;
    }

    private static boolean canBe(Sketch s, int[] row, int many) {
        int[] times = new int[many];
        int[][] values = new int[3][2];
        do {
            if (live(s, row, times, many, values)) {
                return true;
            }
        } while (next(times, many, 1));
        return false;
    }

    private static int[] randomRow(Random dice, Sketch s) {
        List<Integer> row = new ArrayList<>();
        int place = s.start;
        for (int k = 0; k < 3; k++) {
            List<Integer> choice = new ArrayList<>();
            for (int e = 0; e < s.from.length; e++) {
                if (s.from[e] == place) {
                    choice.add(e);
                }
            }
            if (choice.isEmpty()) {
                break;
            }
            row.add(choice.get(dice.nextInt(choice.size())));
            place = s.to[row.get(k)];
        }
        int[] edges = new int[row.size()];
        for (int k = 0; k < edges.length; k++) {
            edges[k] = row.get(k);
        }
        return edges;
    }

    private static int breaksOf(Sketch s, int[] row) {
        for (int many = 0; many <= row.length; many++) {
            if (!canBe(s, row, many)) {
                return many > 0 ? many - 1 : row.length == 0 ? -3 : 0;
            }
        }
        return -2;
    }

    private static void one(Random dice) {
        Sketch s = new Sketch(dice, 3, 7, 3);
        int[] row = randomRow(dice, s);
        ClockZones z = Probe.of(s.text());
        StringBuilder story = new StringBuilder(s.text());
        for (int k = 0; k < row.length; k++) {
            PROBE.due("add", k + 1, z.add(row[k]));
            story.append(" ").append(row[k]);
        }
        int breaks = breaksOf(s, row);
        PROBE.due(story + " breaks", breaks, z.breaks());
        PROBE.due(story + " can", breaks == -2 ? 1 : 0, z.can());
        if (breaks != -2) {
            for (int i = 0; i < row.length; i++) {
                PROBE.due(story + " window", -3, z.window(i, 0));
                PROBE.due(story + " moment", -3, z.moment(i));
            }
            return;
        }
        tryAll(story.toString(), s, row, z);
        moments(story.toString(), s, row, z);
    }

    private static void tryAll(String story, Sketch s, int[] row, ClockZones z) {
        int n = row.length;
        Range[] windows = {new Range(), new Range(), new Range()};
        Range[] gaps = {new Range(), new Range(), new Range()};
        Range[][] held = {{new Range(), new Range()}, {new Range(), new Range()}, {new Range(), new Range()}};
        int[] times = new int[n];
        int[][] values = new int[3][2];
        do {
            if (live(s, row, times, n, values)) {
                for (int i = 0; i < n; i++) {
                    windows[i].see(times[i]);
                    held[i][0].see(values[i][0]);
                    held[i][1].see(values[i][1]);
                    for (int j = i + 1; j < n; j++) {
                        gaps[i + j - 1].see(times[j] - times[i]);
                    }
                }
            }
        } while (next(times, n, 1));
        // Whatever is bounded at all is so by 3 for each edge, and 3 that a clock was set to.
        int edge = 10 * UNIT;
        for (int what = 0; what < 4; what++) {
            for (int i = 0; i < n; i++) {
                PROBE.due(story + " window " + i + " " + what, windows[i].answer(what, edge), z.window(i, what));
                for (int x = 0; x < 2; x++) {
                    PROBE.due(story + " value " + i + " " + x + " " + what, held[i][x].answer(what, edge), z.value(i, x, what));
                }
                for (int j = i + 1; j < n; j++) {
                    PROBE.due(story + " between " + i + " " + j + " " + what, gaps[i + j - 1].answer(what, edge), z.between(i, j, what));
                }
            }
        }
    }

    private static void moments(String story, Sketch s, int[] row, ClockZones z) {
        int[] times = new int[row.length];
        int[][] values = new int[3][2];
        boolean found = false;
        do {
            found = live(s, row, times, row.length, values);
        } while (!found && next(times, row.length, UNIT));
        for (int i = 0; i < row.length; i++) {
            PROBE.due(story + " moment " + i, found ? times[i] / UNIT : -4, z.moment(i));
        }
    }

    /** The fastest time to a place is the window of its way, where that is a trace. */
    private static void fastest(Random dice) {
        Sketch s = new Sketch(dice, 5, 9, 6);
        ClockZones z = Probe.of(s.text());
        for (int p = 0; p < s.places; p++) {
            int many = z.lead(p);
            PROBE.due(s.text() + " way " + p, many, z.way(p, -1));
            if (many >= 0) {
                PROBE.due(s.text() + " can go the way to " + p, 1, z.can());
            }
            for (int what = 0; what < 2 && many >= 0; what++) {
                int want = many == 0 ? what : z.window(many - 1, what);
                PROBE.due(s.text() + " fastest " + p, want, z.fastest(p, what));
            }
        }
    }

    /** Whether a long trace can be, once by its times and once by going along it. */
    private static void longTraces(Random dice) {
        Sketch s = new Sketch(dice, 3, 8, 9);
        ClockZones z = Probe.of(s.text());
        int place = s.start;
        for (int k = 0; k < 60 && z.count(5) < 20; k++) {
            int e = dice.nextInt(s.from.length);
            if (s.from[e] == place && z.add(e) > 0) {
                if (z.can() == 0 && dice.nextInt(4) > 0) {
                    z.undo();
                } else {
                    place = s.to[e];
                }
                PROBE.due(s.text() + " can " + z.trace(-1), z.breaks() == -2 ? 1 : 0, z.can());
            }
        }
    }

    public static void main(String[] args) {
        for (int seed = 0; seed < 300 && PROBE.wrongSoFar() == 0; seed++) {
            one(new Random(seed));
        }
        for (int seed = 0; seed < 2000 && PROBE.wrongSoFar() == 0; seed++) {
            fastest(new Random(seed));
            longTraces(new Random(seed));
        }
        PROBE.end();
    }
}
