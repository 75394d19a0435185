/**
 * A set of times of two clocks, held point by point without any bounds: one point of each class of
 * times that no bound by whole numbers tells apart. Points are told in eighths, up to EDGE.
 */
final class Regions {
    static final int EDGE = 20;
    /** What is bounded shows its bounds up to here; what still grows beyond has none. */
    private static final int NEAR = 14;
    private static final int UNIT = 8;
    private static final int NONE = -1000000;
    private static final int KINDS = 6;
    private static final int[][] PARTS = {{0, 0}, {0, 2}, {2, 0}, {2, 2}, {2, 4}, {4, 2}};

    private final boolean[] in = new boolean[(EDGE + 1) * (EDGE + 1) * KINDS];

    /** A point's class: whole parts, and how the fractions are beside 0 and one another. */
    private static int code(int x, int y) {
        if (x < 0 || y < 0 || x > EDGE * UNIT || y > EDGE * UNIT) {
            return -1;
        }
        int fx = x % UNIT;
        int fy = y % UNIT;
        int kind;
        if (fx == 0) {
            kind = fy == 0 ? 0 : 1;
        } else if (fy == 0) {
            kind = 2;
        } else {
            kind = fx == fy ? 3 : fx < fy ? 4 : 5;
        }
        return (x / UNIT * (EDGE + 1) + y / UNIT) * KINDS + kind;
    }

    private static int xOf(int code) {
        return code / KINDS / (EDGE + 1) * UNIT + PARTS[code % KINDS][0];
    }

    private static int yOf(int code) {
        return code / KINDS % (EDGE + 1) * UNIT + PARTS[code % KINDS][1];
    }

    private static boolean isPoint(int code) {
        return xOf(code) <= EDGE * UNIT && yOf(code) <= EDGE * UNIT;
    }

    boolean holds(int x, int y) {
        int code = code(x, y);
        return code >= 0 && in[code];
    }

    boolean isEmpty() {
        for (boolean b : in) {
            if (b) {
                return false;
            }
        }
        return true;
    }

    Regions copy() {
        Regions other = new Regions();
        System.arraycopy(in, 0, other.in, 0, in.length);
        return other;
    }

    static Regions zero() {
        Regions set = new Regions();
        set.in[code(0, 0)] = true;
        return set;
    }

    static Regions all() {
        Regions set = new Regions();
        for (int k = 0; k < set.in.length; k++) {
            set.in[k] = isPoint(k);
        }
        return set;
    }

    /** Whether d eighths are REL n. */
    static boolean rel(int d, int rel, int n) {
        int m = n * UNIT;
        switch (rel) {
            case 0:
                return d < m;
            case 1:
                return d <= m;
            case 2:
                return d == m;
            case 3:
                return d >= m;
            default:
                return d > m;
        }
    }

    private static int coordinate(int clock, int x, int y) {
        return clock == 0 ? x : clock == 1 ? y : 0;
    }

    Regions meet(int a, int b, int rel, int n) {
        Regions next = new Regions();
        for (int k = 0; k < in.length; k++) {
            if (in[k]) {
                int x = xOf(k);
                int y = yOf(k);
                next.in[k] = rel(coordinate(a, x, y) - coordinate(b, x, y), rel, n);
            }
        }
        return next;
    }

    /** Each rule: clock, rel, number. */
    Regions keep(int[][] rules) {
        Regions next = this;
        for (int[] r : rules) {
            next = next.meet(r[0], -1, r[1], r[2]);
        }
        return next;
    }

    Regions up() {
        Regions next = new Regions();
        for (int k = 0; k < in.length; k++) {
            int x = xOf(k);
            int y = yOf(k);
            for (int d = 0; isPoint(k) && d <= x && d <= y && !next.in[k]; d++) {
                next.in[k] = holds(x - d, y - d);
            }
        }
        return next;
    }

    Regions down() {
        Regions next = new Regions();
        for (int k = 0; k < in.length; k++) {
            int x = xOf(k);
            int y = yOf(k);
            for (int d = 0; isPoint(k) && x + d <= EDGE * UNIT && y + d <= EDGE * UNIT && !next.in[k]; d++) {
                next.in[k] = holds(x + d, y + d);
            }
        }
        return next;
    }

    Regions free(int clock) {
        Regions next = new Regions();
        for (int k = 0; k < in.length; k++) {
            for (int v = 0; isPoint(k) && v <= EDGE * UNIT && !next.in[k]; v++) {
                next.in[k] = clock == 0 ? holds(v, yOf(k)) : holds(xOf(k), v);
            }
        }
        return next;
    }

    Regions set(int clock, int n) {
        return free(clock).meet(clock, -1, 2, n);
    }

    /** Sets: clock, number. */
    Regions setAll(int[][] sets) {
        Regions next = this;
        for (int[] s : sets) {
            next = next.set(s[0], s[1]);
        }
        return next;
    }

    Regions stay(int[][] stay) {
        return keep(stay).up().keep(stay);
    }

    Regions both(Regions other) {
        Regions next = new Regions();
        for (int k = 0; k < in.length; k++) {
            next.in[k] = in[k] && other.in[k];
        }
        return next;
    }

    boolean hasAllOf(Regions other) {
        for (int k = 0; k < in.length; k++) {
            if (other.in[k] && !in[k]) {
                return false;
            }
        }
        return true;
    }

    /** Those from which the sets lead into this one. */
    Regions before(int[][] sets) {
        Regions next = new Regions();
        for (int k = 0; k < in.length; k++) {
            int x = xOf(k);
            int y = yOf(k);
            for (int[] s : sets) {
                x = s[0] == 0 ? s[1] * UNIT : x;
                y = s[0] == 1 ? s[1] * UNIT : y;
            }
            next.in[k] = isPoint(k) && holds(x, y);
        }
        return next;
    }

    private int most(int a, int b, int limit) {
        int most = NONE;
        for (int k = 0; k < in.length; k++) {
            if (in[k] && xOf(k) <= limit && yOf(k) <= limit) {
                most = Math.max(most, coordinate(a, xOf(k), yOf(k)) - coordinate(b, xOf(k), yOf(k)));
            }
        }
        return most;
    }

    /** What a less b is at most: the number, and whether it is reached; none where it grows at the edge. */
    int[] bound(int a, int b) {
        int most = most(a, b, EDGE * UNIT);
        if (most == NONE) {
            return new int[] {-1000, -1000};
        }
        if (most(a, b, NEAR * UNIT) < most) {
            return new int[] {1000, 0};
        }
        return new int[] {-Math.floorDiv(-most, UNIT), Math.floorMod(most, UNIT) == 0 ? 1 : 0};
    }

    private Regions keepBound(int a, int b, int[] bound) {
        return bound[0] >= 1000 ? this : meet(a, b, bound[1] == 1 ? 1 : 0, bound[0]);
    }

    Regions join(Regions other) {
        Regions either = new Regions();
        for (int k = 0; k < in.length; k++) {
            either.in[k] = in[k] || other.in[k];
        }
        if (either.isEmpty()) {
            return either;
        }
        return either.settled();
    }

    /** The same without what the edge took away: all that keep its bounds. */
    Regions settled() {
        if (isEmpty()) {
            return this;
        }
        Regions next = all();
        for (int a = -1; a < 2; a++) {
            for (int b = -1; b < 2; b++) {
                next = a == b ? next : next.keepBound(a, b, bound(a, b));
            }
        }
        return next;
    }

    Regions rough(int[] great) {
        if (isEmpty()) {
            return this;
        }
        Regions next = all();
        for (int a = -1; a < 2; a++) {
            for (int b = -1; b < 2; b++) {
                int[] bound = a == b ? new int[] {1000, 0} : bound(a, b);
                int greatA = a < 0 ? 0 : great[a];
                int greatB = b < 0 ? 0 : great[b];
                if (bound[0] <= greatA) {
                    next = next.keepBound(a, b, bound[0] < -greatB ? new int[] {-greatB, 0} : bound);
                }
            }
        }
        return next;
    }

    private static boolean keeps(int[][] rules, int x, int y) {
        for (int[] r : rules) {
            if (!rel(coordinate(r[0], x, y), r[1], r[2])) {
                return false;
            }
        }
        return true;
    }

    /** How long one may stay: the number, and whether it is reached. */
    int[] longest(int[][] stay) {
        int most = NONE;
        int limit = EDGE * UNIT;
        for (int k = 0; k < in.length; k++) {
            for (int d = 0; in[k] && keeps(stay, xOf(k), yOf(k)) && d <= limit; d++) {
                if (keeps(stay, xOf(k) + d, yOf(k) + d)) {
                    most = Math.max(most, d);
                }
            }
        }
        if (most == NONE) {
            return new int[] {-1000, -1000};
        }
        return most == limit ? new int[] {1000, 0} : new int[] {-Math.floorDiv(-most, UNIT), most % UNIT == 0 ? 1 : 0};
    }

    /** How long until the whens hold: the number, and whether it is reached. */
    int[] soonest(int[][] stay, int[][] whens) {
        int least = EDGE * UNIT;
        for (int k = 0; k < in.length; k++) {
            for (int d = 0; in[k] && keeps(stay, xOf(k), yOf(k)) && d < least; d++) {
                if (keeps(stay, xOf(k) + d, yOf(k) + d) && keeps(whens, xOf(k) + d, yOf(k) + d)) {
                    least = d;
                }
            }
        }
        if (least == EDGE * UNIT) {
            return new int[] {-1000, -1000};
        }
        return new int[] {least / UNIT, least % UNIT == 0 ? 1 : 0};
    }

    /** How many whole points up to m; the least one goes into first. */
    int whole(int m, int[] first) {
        int total = 0;
        first[0] = -2;
        first[1] = -2;
        for (int x = 0; x <= m; x++) {
            for (int y = 0; y <= m; y++) {
                if (holds(x * UNIT, y * UNIT)) {
                    if (total == 0) {
                        first[0] = x;
                        first[1] = y;
                    }
                    total++;
                }
            }
        }
        return total;
    }
}
