import java.util.ArrayList;
import java.util.Arrays;
import java.util.List;
import java.util.NoSuchElementException;

/**
 * The document told a second time, as plainly as can be and by other means than the class: a table is
 * a square of doubles that is closed anew by each call, a bound that is not reached lies a little below
 * its number, and each call is worked out by bounds between old and new numbers, of which the new ones
 * are kept. Nothing is made once and used again.
 */
final class Model {
    private static final double NO_END = Double.POSITIVE_INFINITY;
    private static final double LITTLE = 1.0 / 4096;

    private String tape = "";
    private int fault = 0;
    private int faultAt = -1;
    private Reading told = new Reading("");
    /** An EMPTY one is null. A square is never changed once it stands here. */
    private double[][][] tables = {zero(), zero(), zero(), zero()};
    private List<Integer> row = new ArrayList<>();
    private final List<Past> pasts = new ArrayList<>();
    private final List<Node> all = new ArrayList<>();

    private static final class Past {
        private double[][][] tables;
        private List<Integer> row;
    }

    private static final class Node {
        private int place;
        private int by = -2;
        private int edge = -2;
        private double[][] table;
        private final List<Integer> way = new ArrayList<>();
    }

    // ---- squares ----

    private double[][] zero() {
        return new double[clocks() + 1][clocks() + 1];
    }

    private double[][] everything() {
        double[][] m = zero();
        for (int x = 1; x < m.length; x++) {
            m = free(m, x);
        }
        return m;
    }

    private static double[][] unknown(int size) {
        double[][] m = new double[size][size];
        for (int i = 0; i < size; i++) {
            Arrays.fill(m[i], NO_END);
            m[i][i] = 0;
        }
        return m;
    }

    private static double[][] copyOf(double[][] m, int size) {
        double[][] c = unknown(size);
        for (int i = 0; i < m.length; i++) {
            System.arraycopy(m[i], 0, c[i], 0, m.length);
        }
        return c;
    }

    private static double[][] close(double[][] given) {
        double[][] m = copyOf(given, given.length);
        for (int k = 0; k < m.length; k++) {
            for (int i = 0; i < m.length; i++) {
                for (int j = 0; j < m.length; j++) {
                    m[i][j] = Math.min(m[i][j], m[i][k] + m[k][j]);
                }
            }
        }
        for (int i = 0; i < m.length; i++) {
            if (m[i][i] < 0) {
                return null;
            }
            for (int j = 0; j < m.length; j++) {
                m[i][j] = Math.ceil(m[i][j]) == m[i][j] ? m[i][j] : Math.ceil(m[i][j]) - LITTLE;
            }
        }
        return m;
    }

    private static double[][] only(double[][] m, int... which) {
        if (m == null) {
            return null;
        }
        double[][] c = new double[which.length][which.length];
        for (int i = 0; i < which.length; i++) {
            for (int j = 0; j < which.length; j++) {
                c[i][j] = m[which[i]][which[j]];
            }
        }
        return c;
    }

    private static void say(double[][] m, int x, int y, int rel, int n) {
        if (rel <= 2) {
            m[x][y] = Math.min(m[x][y], rel == 0 ? n - LITTLE : n);
        }
        if (rel >= 2) {
            m[y][x] = Math.min(m[y][x], rel == 4 ? -n - LITTLE : -n);
        }
    }

    /** The clocks' numbers beside another zero. */
    private static void sayAll(double[][] m, int zero, List<int[]> rules) {
        for (int[] r : rules) {
            say(m, r[0] + 1, zero, r[1], r[2]);
        }
    }

    private static double[][] keep(double[][] m, List<int[]> rules) {
        if (m == null) {
            return null;
        }
        double[][] c = copyOf(m, m.length);
        sayAll(c, 0, rules);
        return close(c);
    }

    private static int[] upTo(int size, int at, int with) {
        int[] which = new int[size];
        for (int k = 0; k < size; k++) {
            which[k] = k == at ? with : k;
        }
        return which;
    }

    /** Time goes on: zero falls back. */
    private static double[][] up(double[][] m) {
        if (m == null) {
            return null;
        }
        int later = m.length;
        double[][] c = copyOf(m, later + 1);
        c[later][0] = 0;
        return only(close(c), upTo(later, 0, later));
    }

    private static double[][] down(double[][] m) {
        if (m == null) {
            return null;
        }
        int earlier = m.length;
        double[][] c = copyOf(m, earlier + 1);
        for (int x = 0; x < earlier; x++) {
            c[x == 0 ? 0 : earlier][x == 0 ? earlier : x] = 0;
        }
        return only(close(c), upTo(earlier, 0, earlier));
    }

    private static double[][] set(double[][] m, int x, int n) {
        if (m == null) {
            return null;
        }
        double[][] c = copyOf(m, m.length + 1);
        say(c, m.length, 0, 2, n);
        return only(close(c), upTo(m.length, x, m.length));
    }

    private static double[][] free(double[][] m, int x) {
        if (m == null) {
            return null;
        }
        double[][] c = copyOf(m, m.length + 1);
        say(c, m.length, 0, 3, 0);
        return only(close(c), upTo(m.length, x, m.length));
    }

    private double[][] waitIn(double[][] m, int p) {
        return keep(up(keep(m, told.stays.get(p))), told.stays.get(p));
    }

    private double[][] stepBy(double[][] m, int e) {
        double[][] c = keep(m, told.whens.get(e));
        for (int[] s : told.sets.get(e)) {
            c = set(c, s[0] + 1, s[1]);
        }
        return waitIn(c, told.edges.get(e)[1]);
    }

    /** Clocks ahead of the sets, and behind them, all in one square. */
    private double[][] stepBackBy(double[][] m, int e) {
        if (m == null) {
            return null;
        }
        int n = clocks();
        double[][] c = unknown(2 * n + 1);
        for (int x = 0; x <= n; x++) {
            say(c, x, 0, 3, 0);
            for (int y = 0; y <= n; y++) {
                int i = x == 0 ? 0 : n + x;
                int j = y == 0 ? 0 : n + y;
                c[i][j] = Math.min(c[i][j], m[x][y]);
            }
        }
        for (int x = 1; x <= n; x++) {
            int set = -1;
            for (int[] s : told.sets.get(e)) {
                set = s[0] + 1 == x ? s[1] : set;
            }
            say(c, n + x, set < 0 ? x : 0, 2, Math.max(set, 0));
        }
        for (int[] r : told.stays.get(told.edges.get(e)[1])) {
            say(c, n + r[0] + 1, 0, r[1], r[2]);
        }
        sayAll(c, 0, told.whens.get(e));
        return only(close(c), upTo(n + 1, 0, 0));
    }

    private double[][] roughen(double[][] m) {
        if (m == null) {
            return null;
        }
        double[][] c = copyOf(m, m.length);
        for (int x = 0; x < m.length; x++) {
            for (int y = 0; y < m.length; y++) {
                if (x != y && number(m[x][y]) > greatest(x)) {
                    c[x][y] = NO_END;
                } else if (x != y && number(m[x][y]) < -greatest(y)) {
                    c[x][y] = -greatest(y) - LITTLE;
                }
            }
        }
        return close(c);
    }

    private static boolean hasAll(double[][] m, double[][] of) {
        if (m == null || of == null) {
            return of == null;
        }
        for (int i = 0; i < m.length; i++) {
            for (int j = 0; j < m.length; j++) {
                if (of[i][j] > m[i][j]) {
                    return false;
                }
            }
        }
        return true;
    }

    private static double[][] least(double[][] a, double[][] b) {
        if (a == null || b == null) {
            return null;
        }
        double[][] c = copyOf(a, a.length);
        for (int i = 0; i < a.length; i++) {
            for (int j = 0; j < a.length; j++) {
                c[i][j] = Math.min(a[i][j], b[i][j]);
            }
        }
        return close(c);
    }

    private static double[][] whole(double[][] m) {
        if (m == null) {
            return null;
        }
        double[][] c = copyOf(m, m.length);
        for (double[] line : c) {
            for (int j = 0; j < line.length; j++) {
                line[j] = Math.floor(line[j]);
            }
        }
        return close(c);
    }

    private static double number(double bound) {
        return Math.ceil(bound);
    }

    private static int tellBound(double bound, int what) {
        if (bound == NO_END) {
            return what == 0 ? 1000 : 0;
        }
        return what == 0 ? (int) number(bound) : number(bound) == bound ? 1 : 0;
    }

    // ---- what there is ----

    private int clocks() {
        return told == null ? 0 : told.clocks.size();
    }

    private boolean isTable(int t) {
        return t >= 0 && t < 4;
    }

    private boolean isClock(int x) {
        return x >= 0 && x < clocks();
    }

    private boolean isPair(int x, int y) {
        return x != y && (x == -1 || isClock(x)) && (y == -1 || isClock(y));
    }

    private boolean isPlace(int p) {
        return p >= 0 && p < told.places.size();
    }

    private boolean isEdge(int e) {
        return e >= 0 && e < told.edges.size();
    }

    private boolean isNode(int k) {
        return k >= 0 && k < all.size();
    }

    private int greatest(int zeroOrClock) {
        int most = 0;
        for (List<List<int[]>> lists : Arrays.asList(told.stays, told.whens)) {
            for (List<int[]> list : lists) {
                for (int[] r : list) {
                    most = r[0] + 1 == zeroOrClock ? Math.max(most, r[2]) : most;
                }
            }
        }
        for (List<int[]> list : told.sets) {
            for (int[] s : list) {
                most = s[0] + 1 == zeroOrClock ? Math.max(most, s[1]) : most;
            }
        }
        return most;
    }

    private Node firstOf(int p) {
        for (Node n : all) {
            if (n.place == p) {
                return n;
            }
        }
        return null;
    }

    private void findNodes() {
        all.clear();
        Node zero = new Node();
        zero.place = told.start;
        zero.table = roughen(waitIn(zero(), told.start));
        if (zero.table != null) {
            all.add(zero);
        }
        for (int k = 0; k < all.size(); k++) {
            for (int e = 0; e < told.edges.size(); e++) {
                if (told.edges.get(e)[0] == all.get(k).place && all.size() < 60) {
                    Node next = new Node();
                    next.place = told.edges.get(e)[1];
                    next.by = k;
                    next.edge = e;
                    next.table = roughen(stepBy(all.get(k).table, e));
                    next.way.addAll(all.get(k).way);
                    next.way.add(e);
                    boolean known = next.table == null;
                    for (Node n : all) {
                        known = known || (n.place == next.place && hasAll(n.table, next.table));
                    }
                    if (!known) {
                        all.add(next);
                    }
                }
            }
        }
    }

    private void remember() {
        Past past = new Past();
        past.tables = tables.clone();
        past.row = new ArrayList<>(row);
        pasts.add(past);
        if (pasts.size() > 16) {
            pasts.remove(0);
        }
    }

    private int become(int t, double[][] m) {
        for (int i = 0; m != null && i < m.length; i++) {
            for (int j = 0; j < m.length; j++) {
                if (m[i][j] != NO_END && Math.abs(number(m[i][j])) > 400) {
                    return -2;
                }
            }
        }
        remember();
        tables[t] = m;
        return m == null ? 0 : 1;
    }

    /** All times of a row of edges: 0 is the beginning, i + 1 the i-th. */
    private double[][] timesOf(List<Integer> edges) {
        double[][] m = unknown(edges.size() + 1);
        int[] since = new int[clocks()];
        int[] from = new int[clocks()];
        for (int[] r : told.stays.get(told.start)) {
            say(m, 0, since[r[0]], r[1], r[2] - from[r[0]]);
        }
        for (int i = 1; i <= edges.size(); i++) {
            int e = edges.get(i - 1);
            say(m, i, i - 1, 3, 0);
            for (List<int[]> rules : Arrays.asList(told.stays.get(told.edges.get(e)[0]), told.whens.get(e))) {
                for (int[] r : rules) {
                    say(m, i, since[r[0]], r[1], r[2] - from[r[0]]);
                }
            }
            for (int[] s : told.sets.get(e)) {
                since[s[0]] = i;
                from[s[0]] = s[1];
            }
            for (int[] r : told.stays.get(told.edges.get(e)[1])) {
                say(m, i, since[r[0]], r[1], r[2] - from[r[0]]);
            }
        }
        return close(m);
    }

    private int span(int early, int late, int more, int what) {
        double[][] m = timesOf(row);
        if (m == null) {
            return -3;
        }
        double bound = what < 2 ? m[early][late] : m[late][early];
        if (bound == NO_END) {
            return what == 2 ? 10000 : 0;
        }
        if (what % 2 == 1) {
            return number(bound) == bound ? 1 : 0;
        }
        return more + (int) (what == 0 ? -number(bound) : number(bound));
    }

    // ---- the face ----

    public int feed(int a, int b, int c, int d, int e) {
        if (tape.length() > 880) {
            return -1;
        }
        StringBuilder more = new StringBuilder(tape);
        for (int n : new int[] {a, b, c, d, e}) {
            more.append((char) (n >>> 24)).append((char) (n >>> 16 & 255)).append((char) (n >>> 8 & 255)).append((char) (n & 255));
        }
        tape = more.toString();
        return tape.length();
    }

    public int text(int n) {
        if (n < 0 || n > tape.length()) {
            return -2;
        }
        Reading next = new Reading(tape.substring(0, n));
        tape = "";
        fault = next.fault;
        faultAt = next.faultAt;
        if (fault != 0) {
            return -1;
        }
        told = next;
        tables = new double[][][] {zero(), zero(), zero(), zero()};
        row = new ArrayList<>();
        pasts.clear();
        findNodes();
        return told.lines;
    }

    public int fault(int what) {
        return what == 0 ? fault : what == 1 ? faultAt : -1;
    }

    public int place(int p, int what) {
        if (!isPlace(p)) {
            throw new IndexOutOfBoundsException();
        }
        int count = 0;
        switch (what) {
            case 0:
                return told.stays.get(p).size();
            case 1:
            case 2:
                for (int[] e : told.edges) {
                    count += e[what - 1] == p ? 1 : 0;
                }
                return count;
            case 3:
                return firstOf(p) == null ? -2 : all.indexOf(firstOf(p));
            case 4:
                for (Node n : all) {
                    count += n.place == p ? 1 : 0;
                }
                return count;
            default:
                throw new NoSuchElementException();
        }
    }

    public int edge(int e, int what) {
        if (!isEdge(e)) {
            throw new IndexOutOfBoundsException();
        }
        switch (what) {
            case 0:
            case 1:
                return told.edges.get(e)[what];
            case 2:
                return told.whens.get(e).size();
            case 3:
                return told.sets.get(e).size();
            case 4:
                for (Node n : all) {
                    if (n.edge == e) {
                        return 1;
                    }
                }
                return 0;
            default:
                throw new NoSuchElementException();
        }
    }

    private int part(List<List<int[]>> lists, int e, int k, int what, int whats) {
        if (!isEdge(e) || k < 0 || what < 0 || what >= whats) {
            return -1;
        }
        return k < lists.get(e).size() ? lists.get(e).get(k)[what] : -2;
    }

    public int when(int e, int k, int what) {
        return part(told.whens, e, k, what, 3);
    }

    public int set(int e, int k, int what) {
        return part(told.sets, e, k, what, 2);
    }

    public int great(int x) {
        return isClock(x) ? greatest(x + 1) : -1;
    }

    public boolean lay(int t, int what) {
        if (!isTable(t) || what < 0 || what > 2) {
            return false;
        }
        become(t, what == 0 ? zero() : what == 1 ? everything() : null);
        return true;
    }

    public int meet(int t, int x, int y, int rel, int n) {
        if (!isTable(t) || !isPair(x, y) || rel < 0 || rel > 4 || n < -100 || n > 100) {
            return -1;
        }
        if (tables[t] == null) {
            return become(t, null);
        }
        double[][] m = copyOf(tables[t], clocks() + 1);
        say(m, x + 1, y + 1, rel, n);
        return become(t, close(m));
    }

    public int pass(int t, int what) {
        return !isTable(t) || what < 0 || what > 1 ? -1 : become(t, what == 0 ? up(tables[t]) : down(tables[t]));
    }

    public int reset(int t, int x, int n) {
        return !isTable(t) || !isClock(x) || n < 0 || n > 50 ? -1 : become(t, set(tables[t], x + 1, n));
    }

    public int free(int t, int x) {
        return !isTable(t) || !isClock(x) ? -1 : become(t, free(tables[t], x + 1));
    }

    public int copy(int t, int of) {
        return !isTable(t) || !isTable(of) ? -1 : become(t, tables[of]);
    }

    public int join(int t, int with) {
        if (!isTable(t) || !isTable(with)) {
            return -1;
        }
        double[][] a = tables[t];
        double[][] b = tables[with];
        if (a == null || b == null) {
            return become(t, a == null ? b : a);
        }
        double[][] c = copyOf(a, a.length);
        for (int i = 0; i < a.length; i++) {
            for (int j = 0; j < a.length; j++) {
                c[i][j] = Math.max(a[i][j], b[i][j]);
            }
        }
        return become(t, c);
    }

    public int both(int t, int with) {
        return !isTable(t) || !isTable(with) ? -1 : become(t, least(tables[t], tables[with]));
    }

    public int step(int t, int e) {
        return !isTable(t) || !isEdge(e) ? -1 : become(t, stepBy(tables[t], e));
    }

    public int stay(int t, int p) {
        return !isTable(t) || !isPlace(p) ? -1 : become(t, waitIn(tables[t], p));
    }

    public int rough(int t) {
        return !isTable(t) ? -1 : become(t, roughen(tables[t]));
    }

    public int take(int t, int node) {
        return !isTable(t) || !isNode(node) ? -1 : become(t, all.get(node).table);
    }

    public int back(int t, int e) {
        return !isTable(t) || !isEdge(e) ? -1 : become(t, stepBackBy(tables[t], e));
    }

    public int undo() {
        if (pasts.isEmpty()) {
            return -1;
        }
        Past past = pasts.remove(pasts.size() - 1);
        tables = past.tables;
        row = past.row;
        return pasts.size();
    }

    private int boundOf(double[][] m, int x, int y, int what) {
        if (!isPair(x, y) || what < 0 || what > 1) {
            return -2000;
        }
        return m == null ? -1000 : tellBound(m[x + 1][y + 1], what);
    }

    public int bound(int t, int x, int y, int what) {
        return isTable(t) ? boundOf(tables[t], x, y, what) : -2000;
    }

    public int empty(int t) {
        return !isTable(t) ? -1 : tables[t] == null ? 1 : 0;
    }

    public int within(int t, int of) {
        return !isTable(t) || !isTable(of) ? -1 : hasAll(tables[t], tables[of]) ? 1 : 0;
    }

    private static boolean holds(double[][] m, double... numbers) {
        for (int i = 0; m != null && i < m.length; i++) {
            for (int j = 0; j < m.length; j++) {
                if ((i == 0 ? 0 : numbers[i - 1]) - (j == 0 ? 0 : numbers[j - 1]) > m[i][j]) {
                    return false;
                }
            }
        }
        return m != null;
    }

    public int has(int t, int a, int b, int c, int d) {
        if (!isTable(t) || a < 0 || b < 0 || c < 0 || d < 0) {
            return -1;
        }
        return holds(tables[t], a / 2.0, b / 2.0, c / 2.0, d / 2.0) ? 1 : 0;
    }

    public int pairs(int t, int what) {
        if (!isTable(t) || what < 0 || what > 2) {
            return -1;
        }
        double[][] m = tables[t];
        if (m == null) {
            return -2;
        }
        int count = 0;
        for (int x = 0; x < m.length; x++) {
            for (int y = 0; y < m.length; y++) {
                boolean counts = x != y && m[x][y] != NO_END && (what != 1 || number(m[x][y]) == m[x][y]);
                for (int z = 0; what == 2 && z < m.length; z++) {
                    double sum = m[x][z] + m[z][y];
                    double together = number(sum) == sum ? sum : number(sum) - LITTLE;
                    counts = counts && (z == x || z == y || together > m[x][y]);
                }
                count += counts ? 1 : 0;
            }
        }
        return count;
    }

    public int whole(int t, int m) {
        if (!isTable(t) || m < 0 || m > 9) {
            return -1;
        }
        int count = 0;
        int many = clocks();
        for (int a = 0; a <= (many > 0 ? m : 0); a++) {
            for (int b = 0; b <= (many > 1 ? m : 0); b++) {
                for (int c = 0; c <= (many > 2 ? m : 0); c++) {
                    for (int d = 0; d <= (many > 3 ? m : 0); d++) {
                        count += holds(tables[t], a, b, c, d) ? 1 : 0;
                    }
                }
            }
        }
        return count;
    }

    /** One clock after the other takes the least number by which the rest can still be. */
    public int first(int t, int x) {
        if (!isTable(t) || !isClock(x)) {
            return -1;
        }
        double[][] m = whole(tables[t]);
        for (int c = 1; m != null && c <= clocks(); c++) {
            double[][] next = null;
            for (int n = 0; n <= 100 && next == null; n++) {
                next = copyOf(m, m.length);
                for (int k = 1; k <= clocks(); k++) {
                    say(next, k, 0, 1, 100);
                }
                say(next, c, 0, 2, n);
                next = close(next);
            }
            m = next;
        }
        return m == null ? -2 : (int) m[x + 1][0];
    }

    public int nodes() {
        return all.size();
    }

    public int node(int k, int what) {
        if (what < 0 || what > 3) {
            return -1;
        }
        if (!isNode(k)) {
            return -3;
        }
        Node n = all.get(k);
        return what == 0 ? n.place : what == 1 ? n.by : what == 2 ? n.edge : n.way.size();
    }

    public int nodeBound(int k, int x, int y, int what) {
        return isNode(k) ? boundOf(all.get(k).table, x, y, what) : -2000;
    }

    public int way(int p, int i) {
        if (!isPlace(p) || i < -1) {
            return -1;
        }
        Node n = firstOf(p);
        if (n == null || i >= n.way.size()) {
            return -2;
        }
        return i == -1 ? n.way.size() : n.way.get(i);
    }

    public int open(int k) {
        if (!isNode(k)) {
            return -1;
        }
        int bits = 0;
        for (int e = 0; e < told.edges.size(); e++) {
            if (told.edges.get(e)[0] == all.get(k).place && stepBy(all.get(k).table, e) != null) {
                bits |= 1 << e;
            }
        }
        return bits;
    }

    public int stuck() {
        for (int k = 0; k < all.size(); k++) {
            if (open(k) == 0) {
                return k;
            }
        }
        return -2;
    }

    public int reached() {
        int bits = 0;
        for (Node n : all) {
            bits |= 1 << n.place;
        }
        return bits;
    }

    public int add(int e) {
        if (!isEdge(e)) {
            return -1;
        }
        int end = row.isEmpty() ? told.start : told.edges.get(row.get(row.size() - 1))[1];
        if (end != told.edges.get(e)[0]) {
            return -2;
        }
        if (row.size() == 20) {
            return -3;
        }
        remember();
        row.add(e);
        return row.size();
    }

    public int lead(int p) {
        if (p != -1 && !isPlace(p)) {
            return -1;
        }
        if (p != -1 && firstOf(p) == null) {
            return -2;
        }
        remember();
        row = new ArrayList<>();
        for (int k = 0; p != -1 && k < 20 && k < firstOf(p).way.size(); k++) {
            row.add(firstOf(p).way.get(k));
        }
        return row.size();
    }

    public int trace(int i) {
        return i < -1 ? -1 : i >= row.size() ? -2 : i == -1 ? row.size() : row.get(i);
    }

    public int can() {
        return told.places.isEmpty() ? -1 : timesOf(row) == null ? 0 : 1;
    }

    public int window(int i, int what) {
        return i < 0 || what < 0 || what > 3 ? -1 : i >= row.size() ? -2 : span(0, i + 1, 0, what);
    }

    public int between(int i, int j, int what) {
        return i < 0 || j <= i || what < 0 || what > 3 ? -1 : j >= row.size() ? -2 : span(i + 1, j + 1, 0, what);
    }

    public int value(int i, int x, int what) {
        if (i < 0 || !isClock(x) || what < 0 || what > 3) {
            return -1;
        }
        if (i >= row.size()) {
            return -2;
        }
        int since = 0;
        int from = 0;
        for (int k = 0; k < i; k++) {
            for (int[] s : told.sets.get(row.get(k))) {
                since = s[0] == x ? k + 1 : since;
                from = s[0] == x ? s[1] : from;
            }
        }
        return span(since, i + 1, from, what);
    }

    public int breaks() {
        if (told.places.isEmpty()) {
            return -1;
        }
        for (int many = 0; many <= row.size(); many++) {
            if (timesOf(row.subList(0, many)) == null) {
                return many > 0 ? many - 1 : row.isEmpty() ? -3 : 0;
            }
        }
        return -2;
    }

    public int width(int t, int x, int y, int what) {
        int there = bound(t, x, y, 0);
        int back = bound(t, y, x, 0);
        if (there <= -1000 || what < 0 || what > 1) {
            return there == -1000 && what >= 0 && what <= 1 ? -1000 : -2000;
        }
        if (there == 1000 || back == 1000) {
            return what == 0 ? 1000 : 0;
        }
        return what == 0 ? there + back : bound(t, x, y, 1) * bound(t, y, x, 1);
    }

    public int touch(int t, int with) {
        return !isTable(t) || !isTable(with) ? -1 : least(tables[t], tables[with]) == null ? 0 : 1;
    }

    /** The clocks, zero as it is now, and zero as it is later. */
    private double[][] waited(double[][] m, int p, List<int[]> whens) {
        if (m == null) {
            return null;
        }
        int later = m.length;
        double[][] c = copyOf(m, later + 1);
        c[later][0] = 0;
        sayAll(c, 0, told.stays.get(p));
        sayAll(c, later, told.stays.get(p));
        sayAll(c, later, whens);
        return close(c);
    }

    public int longest(int t, int p, int what) {
        if (!isTable(t) || !isPlace(p) || what < 0 || what > 1) {
            return -2000;
        }
        double[][] m = waited(tables[t], p, new ArrayList<>());
        return m == null ? -1000 : tellBound(m[0][m.length - 1], what);
    }

    public int soonest(int t, int e, int what) {
        if (!isTable(t) || !isEdge(e) || what < 0 || what > 1) {
            return -2000;
        }
        double[][] m = waited(tables[t], told.edges.get(e)[0], told.whens.get(e));
        if (m == null) {
            return -1000;
        }
        int answer = tellBound(m[m.length - 1][0], what);
        return what == 0 ? -answer : answer;
    }

    public int leads(int p) {
        if (!isPlace(p)) {
            return -1;
        }
        int bits = 1 << p;
        int before = 0;
        while (bits != before) {
            before = bits;
            for (int[] e : told.edges) {
                bits |= (before >> e[0] & 1) << e[1];
            }
        }
        return bits;
    }

    public int fastest(int p, int what) {
        if (!isPlace(p) || what < 0 || what > 1) {
            return -1;
        }
        Node n = firstOf(p);
        if (n == null) {
            return -2;
        }
        double[][] m = timesOf(n.way);
        if (m == null) {
            return -3;
        }
        int answer = tellBound(m[0][n.way.size()], what);
        return what == 0 ? -answer : answer;
    }

    public int moment(int i) {
        if (i < 0) {
            return -1;
        }
        if (i >= row.size()) {
            return -2;
        }
        double[][] m = timesOf(row);
        if (m == null) {
            return -3;
        }
        m = whole(m);
        for (int k = 1; m != null && k <= row.size(); k++) {
            double[][] c = copyOf(m, m.length);
            say(c, k, 0, 2, (int) -m[0][k]);
            m = close(c);
        }
        return m == null ? -4 : (int) m[i + 1][0];
    }

    public int deepest(int what) {
        if (what < 0 || what > 1) {
            return -1;
        }
        int best = -2;
        int most = -2;
        for (int p = told.places.size() - 1; p >= 0; p--) {
            if (firstOf(p) != null && firstOf(p).way.size() >= most) {
                best = p;
                most = firstOf(p).way.size();
            }
        }
        return what == 0 ? best : most;
    }

    public int tells(int x, int what) {
        if (!isClock(x) || what < 0 || what > 2) {
            return -1;
        }
        List<List<int[]>> lists = what == 0 ? told.whens : what == 1 ? told.sets : told.stays;
        int bits = 0;
        for (int k = 0; k < lists.size(); k++) {
            for (int[] r : lists.get(k)) {
                bits |= r[0] == x ? 1 << k : 0;
            }
        }
        return bits;
    }

    public int single(int t) {
        if (!isTable(t)) {
            return -1;
        }
        if (tables[t] == null) {
            return -2;
        }
        int bits = 0;
        for (int x = 0; x < clocks(); x++) {
            bits |= tables[t][x + 1][0] == -tables[t][0][x + 1] ? 1 << x : 0;
        }
        return bits;
    }

    public int count(int what) {
        int[] counts = {told.places.isEmpty() ? 0 : told.lines, clocks(), told.places.size(), told.edges.size(),
            told.places.isEmpty() ? -1 : told.start, row.size(), pasts.size(), tape.length()};
        return what < 0 || what > 7 ? -1 : counts[what];
    }
}
