import java.util.Arrays;
import java.util.NoSuchElementException;

/**
 * Timed places and edges told as a text, tables of bounds of clock differences, the nodes that are
 * reached, and traces of edges with their times. The document of the class names every promise.
 *
 * <p>A BOUND is held in one int, twice its number, and one more if the number itself is reached, so
 * that the lesser int is always the stricter bound.
 */
public final class ClockZones {
    public static final int NONE = -1;

    private static final int TABLES = 4;
    private static final int MOST_CLOCKS = 4;
    private static final int MOST_PLACES = 8;
    private static final int MOST_EDGES = 16;
    private static final int MOST_WHENS = 6;
    private static final int MOST_SETS = 4;
    private static final int MOST_NODES = 60;
    private static final int MOST_TRACE = 20;
    private static final int MOST_UNDOS = 16;
    private static final int MOST_TAPE = 900;
    private static final int FED_AT_ONCE = 20;
    private static final int GREATEST_NUMBER = 50;
    private static final int GREATEST_MEET = 100;
    private static final int GREATEST_BOUND = 400;
    private static final int GREATEST_FIRST = 100;
    private static final int GREATEST_WHOLE = 9;

    /** ZERO, four CLOCKS, and one more that only measures how long something takes. */
    private static final int SIDE = MOST_CLOCKS + 2;
    /** The origin of time, and when each EDGE of a TRACE is taken. */
    private static final int MOMENTS = MOST_TRACE + 1;
    private static final int NO_BOUND = 1 << 28;
    /** The BOUND "at most 0", which each clock has beside itself. */
    private static final int AT_MOST_ZERO = 1;

    private static final int REL_LESS = 0;
    private static final int REL_AT_MOST = 1;
    private static final int REL_EQUAL = 2;
    private static final int REL_AT_LEAST = 3;
    private static final int REL_MORE = 4;

    private static final int TOKEN_END = 0;
    private static final int TOKEN_WORD = 1;
    private static final int TOKEN_NUMBER = 2;
    private static final int TOKEN_REL = 3;
    private static final int TOKEN_SEMICOLON = 4;
    private static final int TOKEN_CLOCK = 5;
    private static final int TOKEN_PLACE = 6;
    private static final int TOKEN_EDGE = 7;
    private static final int TOKEN_START = 8;
    private static final int TOKEN_WHEN = 9;
    private static final int TOKEN_SET = 10;
    private static final int TOKEN_BAD = 11;

    private static final int FAULT_TOKEN = 1;
    private static final int FAULT_LIMIT = 2;
    private static final int FAULT_AGAIN = 3;
    private static final int FAULT_NO_PLACE = 4;

    private static final int LONGEST_WORD = 6;
    private static final int LETTER_BITS = 5;
    private static final int LETTER_MASK = 31;
    private static final int WORD_CLOCK = ('c' & LETTER_MASK) << 20 | ('l' & LETTER_MASK) << 15
            | ('o' & LETTER_MASK) << 10 | ('c' & LETTER_MASK) << 5 | ('k' & LETTER_MASK);
    private static final int WORD_PLACE = ('p' & LETTER_MASK) << 20 | ('l' & LETTER_MASK) << 15
            | ('a' & LETTER_MASK) << 10 | ('c' & LETTER_MASK) << 5 | ('e' & LETTER_MASK);
    private static final int WORD_EDGE = ('e' & LETTER_MASK) << 15 | ('d' & LETTER_MASK) << 10
            | ('g' & LETTER_MASK) << 5 | ('e' & LETTER_MASK);
    private static final int WORD_START = ('s' & LETTER_MASK) << 20 | ('t' & LETTER_MASK) << 15
            | ('a' & LETTER_MASK) << 10 | ('r' & LETTER_MASK) << 5 | ('t' & LETTER_MASK);
    private static final int WORD_WHEN = ('w' & LETTER_MASK) << 15 | ('h' & LETTER_MASK) << 10
            | ('e' & LETTER_MASK) << 5 | ('n' & LETTER_MASK);
    private static final int WORD_SET = ('s' & LETTER_MASK) << 10 | ('e' & LETTER_MASK) << 5
            | ('t' & LETTER_MASK);

    private final Reader reader = new Reader();
    private Plan plan = new Plan();
    private final Zone[] tables = new Zone[TABLES];
    private final Zone work = new Zone();
    private final Zone timed = new Zone();
    private final int[] point = new int[SIDE];
    private final Graph graph = new Graph();
    private final Path path = new Path();
    private final Times times = new Times();
    private final Walk walk = new Walk();
    private final History history = new History();

    public ClockZones() {
        for (int t = 0; t < TABLES; t++) {
            tables[t] = new Zone();
        }
    }

    // ---- the text ----

    public int feed(int a, int b, int c, int d, int e) {
        if (reader.taped + FED_AT_ONCE > MOST_TAPE) {
            return NONE;
        }
        reader.putBytes(a);
        reader.putBytes(b);
        reader.putBytes(c);
        reader.putBytes(d);
        reader.putBytes(e);
        return reader.taped;
    }

    public int text(int n) {
        if (n < 0 || n > reader.taped) {
            return -2;
        }
        reader.taped = 0;
        if (!reader.readText(n)) {
            return NONE;
        }
        Plan old = plan;
        plan = reader.fresh;
        reader.fresh = old;
        beginAnew();
        graph.build(plan);
        return plan.lines;
    }

    public int fault(int what) {
        switch (what) {
            case 0:
                return reader.faultKind;
            case 1:
                return reader.faultAt;
            default:
                return NONE;
        }
    }

    public int place(int p, int what) throws IndexOutOfBoundsException, NoSuchElementException {
        if (!isPlace(p)) {
            throw new IndexOutOfBoundsException("no such place");
        }
        switch (what) {
            case 0:
                return plan.ruleCounts[stayRules(p)];
            case 1:
                return plan.edgesFrom(p);
            case 2:
                return plan.edgesTo(p);
            case 3:
                return graph.firsts[p];
            case 4:
                return graph.nodesOf(p);
            default:
                throw new NoSuchElementException("no such what");
        }
    }

    public int edge(int e, int what) throws IndexOutOfBoundsException, NoSuchElementException {
        if (!isEdge(e)) {
            throw new IndexOutOfBoundsException("no such edge");
        }
        switch (what) {
            case 0:
                return plan.from[e];
            case 1:
                return plan.to[e];
            case 2:
                return plan.ruleCounts[edgeRules(e)];
            case 3:
                return plan.setCounts[e];
            case 4:
                return graph.hasNodeBy(e) ? 1 : 0;
            default:
                throw new NoSuchElementException("no such what");
        }
    }

    public int when(int e, int k, int what) {
        if (!isEdge(e) || k < 0 || what < 0 || what > 2) {
            return NONE;
        }
        int list = edgeRules(e);
        if (k >= plan.ruleCounts[list]) {
            return -2;
        }
        int rule = list * MOST_WHENS + k;
        if (what == 0) {
            return plan.ruleClocks[rule];
        }
        return what == 1 ? plan.ruleRels[rule] : plan.ruleNumbers[rule];
    }

    public int set(int e, int k, int what) {
        if (!isEdge(e) || k < 0 || what < 0 || what > 1) {
            return NONE;
        }
        if (k >= plan.setCounts[e]) {
            return -2;
        }
        int at = e * MOST_SETS + k;
        return what == 0 ? plan.setClocks[at] : plan.setNumbers[at];
    }

    public int great(int x) {
        return isClock(x) ? plan.greats[x] : NONE;
    }

    // ---- tables changed ----

    public boolean lay(int t, int what) {
        if (!isTable(t) || what < 0 || what > 2) {
            return false;
        }
        int size = plan.clocks + 1;
        if (what == 0) {
            work.layZero(size);
        } else if (what == 1) {
            work.layAll(size);
        } else {
            work.layNothing(size);
        }
        settle(t);
        return true;
    }

    public int meet(int t, int x, int y, int rel, int n) {
        if (!isTable(t) || !isPair(x, y) || rel < REL_LESS || rel > REL_MORE) {
            return NONE;
        }
        if (n < -GREATEST_MEET || n > GREATEST_MEET) {
            return NONE;
        }
        work.become(tables[t]);
        work.relate(x + 1, y + 1, rel, n);
        return settle(t);
    }

    public int pass(int t, int what) {
        if (!isTable(t) || what < 0 || what > 1) {
            return NONE;
        }
        work.become(tables[t]);
        if (what == 0) {
            work.goUp();
        } else {
            work.goDown();
        }
        return settle(t);
    }

    public int reset(int t, int x, int n) {
        if (!isTable(t) || !isClock(x) || n < 0 || n > GREATEST_NUMBER) {
            return NONE;
        }
        work.become(tables[t]);
        work.assign(x + 1, n);
        return settle(t);
    }

    public int free(int t, int x) {
        if (!isTable(t) || !isClock(x)) {
            return NONE;
        }
        work.become(tables[t]);
        work.release(x + 1);
        return settle(t);
    }

    public int copy(int t, int of) {
        if (!isTable(t) || !isTable(of)) {
            return NONE;
        }
        work.become(tables[of]);
        return settle(t);
    }

    public int join(int t, int with) {
        if (!isTable(t) || !isTable(with)) {
            return NONE;
        }
        work.become(tables[t]);
        work.widenTo(tables[with]);
        return settle(t);
    }

    public int both(int t, int with) {
        if (!isTable(t) || !isTable(with)) {
            return NONE;
        }
        work.become(tables[t]);
        work.narrowTo(tables[with]);
        return settle(t);
    }

    public int step(int t, int e) {
        if (!isTable(t) || !isEdge(e)) {
            return NONE;
        }
        work.become(tables[t]);
        work.stepBy(plan, e);
        return settle(t);
    }

    public int stay(int t, int p) {
        if (!isTable(t) || !isPlace(p)) {
            return NONE;
        }
        work.become(tables[t]);
        work.waitIn(plan, p);
        return settle(t);
    }

    public int rough(int t) {
        if (!isTable(t)) {
            return NONE;
        }
        work.become(tables[t]);
        work.roughen(plan);
        return settle(t);
    }

    public int take(int t, int node) {
        if (!isTable(t) || !isNode(node)) {
            return NONE;
        }
        work.become(graph.zones[node]);
        return settle(t);
    }

    public int back(int t, int e) {
        if (!isTable(t) || !isEdge(e)) {
            return NONE;
        }
        work.become(tables[t]);
        work.stepBackBy(plan, e);
        return settle(t);
    }

    public int undo() {
        if (history.count == 0) {
            return NONE;
        }
        int slot = history.dropLatest();
        int table = history.owners[slot];
        if (isTable(table)) {
            tables[table].become(history.zones[slot]);
        } else {
            history.restorePath(slot, path);
            times.stale = true;
        }
        return history.count;
    }

    // ---- tables asked ----

    public int bound(int t, int x, int y, int what) {
        if (!isTable(t)) {
            return -2000;
        }
        return boundOf(tables[t], x, y, what);
    }

    public int empty(int t) {
        if (!isTable(t)) {
            return NONE;
        }
        return tables[t].vacant ? 1 : 0;
    }

    public int within(int t, int of) {
        if (!isTable(t) || !isTable(of)) {
            return NONE;
        }
        return tables[t].covers(tables[of]) ? 1 : 0;
    }

    public int has(int t, int a, int b, int c, int d) {
        if (!isTable(t) || a < 0 || b < 0 || c < 0 || d < 0) {
            return NONE;
        }
        point[0] = 0;
        point[1] = a;
        point[2] = b;
        point[3] = c;
        point[4] = d;
        return tables[t].holdsHalves(point) ? 1 : 0;
    }

    public int pairs(int t, int what) {
        if (!isTable(t) || what < 0 || what > 2) {
            return NONE;
        }
        Zone zone = tables[t];
        if (zone.vacant) {
            return -2;
        }
        int total = 0;
        for (int x = 0; x < zone.size; x++) {
            for (int y = 0; y < zone.size; y++) {
                if (x != y && zone.countsAsPair(x, y, what)) {
                    total++;
                }
            }
        }
        return total;
    }

    public int whole(int t, int m) {
        if (!isTable(t) || m < 0 || m > GREATEST_WHOLE) {
            return NONE;
        }
        work.become(tables[t]);
        for (int c = 1; c < work.size; c++) {
            work.tighten(c, 0, atMost(m));
        }
        work.keepWhole();
        if (work.vacant) {
            return 0;
        }
        point[0] = 0;
        return pointsFrom(work, point, 1);
    }

    public int first(int t, int x) {
        if (!isTable(t) || !isClock(x)) {
            return NONE;
        }
        work.become(tables[t]);
        work.keepWhole();
        if (work.vacant) {
            return -2;
        }
        // The least time of every clock alone is kept by all of them together, so no search is due.
        for (int c = 1; c < work.size; c++) {
            if (work.leastOf(c) > GREATEST_FIRST) {
                return -2;
            }
        }
        return work.leastOf(x + 1);
    }

    public int width(int t, int x, int y, int what) {
        if (!isTable(t) || !isPair(x, y) || what < 0 || what > 1) {
            return -2000;
        }
        Zone zone = tables[t];
        if (zone.vacant) {
            return -1000;
        }
        return tellBound(sumOf(zone.cell(x + 1, y + 1), zone.cell(y + 1, x + 1)), what);
    }

    public int touch(int t, int with) {
        if (!isTable(t) || !isTable(with)) {
            return NONE;
        }
        work.become(tables[t]);
        work.narrowTo(tables[with]);
        return work.vacant ? 0 : 1;
    }

    public int longest(int t, int p, int what) {
        if (!isTable(t) || !isPlace(p) || what < 0 || what > 1) {
            return -2000;
        }
        timed.becomeTimed(tables[t]);
        timed.waitIn(plan, p);
        if (timed.vacant) {
            return -1000;
        }
        return tellBound(timed.cell(timed.size - 1, 0), what);
    }

    public int soonest(int t, int e, int what) {
        if (!isTable(t) || !isEdge(e) || what < 0 || what > 1) {
            return -2000;
        }
        timed.becomeTimed(tables[t]);
        timed.waitIn(plan, plan.from[e]);
        timed.keepRules(plan, edgeRules(e));
        if (timed.vacant) {
            return -1000;
        }
        int last = timed.size - 1;
        return what == 0 ? timed.leastOf(last) : reachedOf(timed.cell(0, last));
    }

    public int single(int t) {
        if (!isTable(t)) {
            return NONE;
        }
        Zone zone = tables[t];
        if (zone.vacant) {
            return -2;
        }
        int bits = 0;
        for (int c = 1; c < zone.size; c++) {
            if (sumOf(zone.cell(c, 0), zone.cell(0, c)) == AT_MOST_ZERO) {
                bits |= 1 << (c - 1);
            }
        }
        return bits;
    }

    // ---- nodes ----

    public int nodes() {
        return graph.count;
    }

    public int node(int k, int what) {
        if (what < 0 || what > 3) {
            return NONE;
        }
        if (!isNode(k)) {
            return -3;
        }
        switch (what) {
            case 0:
                return graph.places[k];
            case 1:
                return graph.parents[k];
            case 2:
                return graph.edges[k];
            default:
                return graph.depths[k];
        }
    }

    public int nodeBound(int k, int x, int y, int what) {
        if (!isNode(k)) {
            return -2000;
        }
        return boundOf(graph.zones[k], x, y, what);
    }

    public int way(int p, int i) {
        if (!isPlace(p) || i < NONE) {
            return NONE;
        }
        int length = graph.findWay(p);
        if (length < 0 || i >= length) {
            return -2;
        }
        return i == NONE ? length : graph.way[i];
    }

    public int open(int k) {
        return isNode(k) ? graph.openEdges(plan, k) : NONE;
    }

    public int stuck() {
        for (int k = 0; k < graph.count; k++) {
            if (graph.openEdges(plan, k) == 0) {
                return k;
            }
        }
        return -2;
    }

    public int reached() {
        int bits = 0;
        for (int p = 0; p < plan.places; p++) {
            if (graph.firsts[p] >= 0) {
                bits |= 1 << p;
            }
        }
        return bits;
    }

    public int leads(int p) {
        return isPlace(p) ? plan.placesBehind(p) : NONE;
    }

    public int fastest(int p, int what) {
        if (!isPlace(p) || what < 0 || what > 1) {
            return NONE;
        }
        int length = graph.findWay(p);
        if (length < 0) {
            return -2;
        }
        if (walk.breakIn(plan, graph.way, length) != -2) {
            return -3;
        }
        Zone end = walk.zone;
        int clock = end.size - 1;
        return what == 0 ? end.leastOf(clock) : reachedOf(end.cell(0, clock));
    }

    public int deepest(int what) {
        if (what < 0 || what > 1) {
            return NONE;
        }
        int best = -2;
        int most = -2;
        for (int p = 0; p < plan.places; p++) {
            int first = graph.firsts[p];
            if (first >= 0 && graph.depths[first] > most) {
                best = p;
                most = graph.depths[first];
            }
        }
        return what == 0 ? best : most;
    }

    public int tells(int x, int what) {
        if (!isClock(x)) {
            return NONE;
        }
        switch (what) {
            case 0:
                return plan.listsWith(x, MOST_PLACES, plan.edges);
            case 1:
                return plan.edgesThatSet(x);
            case 2:
                return plan.listsWith(x, 0, plan.places);
            default:
                return NONE;
        }
    }

    // ---- the trace ----

    public int add(int e) {
        if (!isEdge(e)) {
            return NONE;
        }
        if (plan.from[e] != path.endIn(plan)) {
            return -2;
        }
        if (path.length >= MOST_TRACE) {
            return -3;
        }
        changePath();
        path.edges[path.length] = e;
        path.length++;
        return path.length;
    }

    public int lead(int p) {
        if (p != NONE && !isPlace(p)) {
            return NONE;
        }
        int length = p == NONE ? 0 : graph.findWay(p);
        if (length < 0) {
            return -2;
        }
        changePath();
        path.length = Math.min(length, MOST_TRACE);
        for (int i = 0; i < path.length; i++) {
            path.edges[i] = graph.way[i];
        }
        return path.length;
    }

    public int trace(int i) {
        if (i < NONE) {
            return NONE;
        }
        if (i >= path.length) {
            return -2;
        }
        return i == NONE ? path.length : path.edges[i];
    }

    public int can() {
        if (plan.places == 0) {
            return NONE;
        }
        return timesOfPath().can ? 1 : 0;
    }

    public int window(int i, int what) {
        if (i < 0 || what < 0 || what > 3) {
            return NONE;
        }
        if (i >= path.length) {
            return -2;
        }
        if (!timesOfPath().can) {
            return -3;
        }
        return times.span(0, i + 1, 0, what);
    }

    public int between(int i, int j, int what) {
        if (i < 0 || j <= i || what < 0 || what > 3) {
            return NONE;
        }
        if (j >= path.length) {
            return -2;
        }
        if (!timesOfPath().can) {
            return -3;
        }
        return times.span(i + 1, j + 1, 0, what);
    }

    public int value(int i, int x, int what) {
        if (i < 0 || !isClock(x) || what < 0 || what > 3) {
            return NONE;
        }
        if (i >= path.length) {
            return -2;
        }
        if (!timesOfPath().can) {
            return -3;
        }
        int setter = path.setterAhead(plan, i, x);
        int number = setter < 0 ? 0 : plan.numberSet(path.edges[setter], x);
        return times.span(setter + 1, i + 1, number, what);
    }

    public int breaks() {
        if (plan.places == 0) {
            return NONE;
        }
        return walk.breakIn(plan, path.edges, path.length);
    }

    public int moment(int i) {
        if (i < 0) {
            return NONE;
        }
        if (i >= path.length) {
            return -2;
        }
        if (!timesOfPath().can) {
            return -3;
        }
        if (times.wholeStale) {
            times.buildWhole(path);
        }
        return times.canWhole ? times.leastWhole(i + 1) : -4;
    }

    public int count(int what) {
        switch (what) {
            case 0:
                return plan.lines;
            case 1:
                return plan.clocks;
            case 2:
                return plan.places;
            case 3:
                return plan.edges;
            case 4:
                return plan.places == 0 ? NONE : plan.start;
            case 5:
                return path.length;
            case 6:
                return history.count;
            case 7:
                return reader.taped;
            default:
                return NONE;
        }
    }

    // ---- what the face's methods share ----

    private void beginAnew() {
        for (int t = 0; t < TABLES; t++) {
            tables[t].layZero(plan.clocks + 1);
        }
        path.length = 0;
        times.stale = true;
        history.forgetAll();
    }

    private static boolean isTable(int t) {
        return t >= 0 && t < TABLES;
    }

    private boolean isClock(int x) {
        return x >= 0 && x < plan.clocks;
    }

    private boolean isPlace(int p) {
        return p >= 0 && p < plan.places;
    }

    private boolean isEdge(int e) {
        return e >= 0 && e < plan.edges;
    }

    private boolean isNode(int k) {
        return k >= 0 && k < graph.count;
    }

    private boolean isPair(int x, int y) {
        return x != y && (x == NONE || isClock(x)) && (y == NONE || isClock(y));
    }

    /** What was worked out becomes the TABLE, unless one of its BOUNDS is too great. */
    private int settle(int t) {
        if (work.goesBeyond(GREATEST_BOUND)) {
            return -2;
        }
        history.keepTable(t, tables[t]);
        tables[t].become(work);
        return work.vacant ? 0 : 1;
    }

    private void changePath() {
        history.keepPath(path);
        times.stale = true;
    }

    private Times timesOfPath() {
        if (times.stale) {
            times.build(plan, path);
        }
        return times;
    }

    private int boundOf(Zone zone, int x, int y, int what) {
        if (!isPair(x, y) || what < 0 || what > 1) {
            return -2000;
        }
        return zone.vacant ? -1000 : tellBound(zone.cell(x + 1, y + 1), what);
    }

    private static int tellBound(int bound, int what) {
        if (bound >= NO_BOUND) {
            return what == 0 ? 1000 : 0;
        }
        return what == 0 ? numberOf(bound) : reachedOf(bound);
    }

    /** How many whole points a closed table of whole numbers has, the clocks ahead of c being told. */
    private static int pointsFrom(Zone zone, int[] point, int c) {
        if (c >= zone.size) {
            return 1;
        }
        int low = 0;
        int high = GREATEST_WHOLE;
        for (int j = 0; j < c; j++) {
            low = Math.max(low, point[j] - numberOf(zone.cell(j, c)));
            high = Math.min(high, point[j] + numberOf(zone.cell(c, j)));
        }
        if (c == zone.size - 1) {
            return Math.max(0, high - low + 1);
        }
        int total = 0;
        for (int v = low; v <= high; v++) {
            point[c] = v;
            total += pointsFrom(zone, point, c + 1);
        }
        return total;
    }

    // ---- bounds ----

    private static int atMost(int n) {
        return 2 * n + 1;
    }

    private static int lessThan(int n) {
        return 2 * n;
    }

    private static int numberOf(int bound) {
        return bound >> 1;
    }

    private static int reachedOf(int bound) {
        return bound & 1;
    }

    /** Two BOUNDS together: reached only if both are. */
    private static int sumOf(int a, int b) {
        if (a >= NO_BOUND || b >= NO_BOUND) {
            return NO_BOUND;
        }
        return a + b - ((a | b) & 1);
    }

    /** What X less Y is at most by "X less Y is REL n". */
    private static int upperOf(int rel, int n) {
        if (rel == REL_LESS) {
            return lessThan(n);
        }
        return rel == REL_AT_MOST || rel == REL_EQUAL ? atMost(n) : NO_BOUND;
    }

    /** What Y less X is at most by "X less Y is REL n". */
    private static int lowerOf(int rel, int n) {
        if (rel == REL_MORE) {
            return lessThan(-n);
        }
        return rel == REL_AT_LEAST || rel == REL_EQUAL ? atMost(-n) : NO_BOUND;
    }

    /** The same BOUND for whole numbers, which reach it. */
    private static int wholeBound(int bound) {
        return bound >= NO_BOUND || reachedOf(bound) == 1 ? bound : bound - 1;
    }

    private static int stayRules(int p) {
        return p;
    }

    private static int edgeRules(int e) {
        return MOST_PLACES + e;
    }

    /**
     * What a TEXT tells. The whens stand in lists of six: first those of the PLACES (their STAYS),
     * then those of the EDGES, so that one piece of code keeps both.
     */
    private static final class Plan {
        private static final int LISTS = MOST_PLACES + MOST_EDGES;

        private int lines;
        private int clocks;
        private int places;
        private int edges;
        private int start;
        private boolean started;
        private final int[] clockNames = new int[MOST_CLOCKS];
        private final int[] placeNames = new int[MOST_PLACES];
        private final int[] greats = new int[MOST_CLOCKS];
        private final int[] ruleCounts = new int[LISTS];
        private final int[] ruleClocks = new int[LISTS * MOST_WHENS];
        private final int[] ruleRels = new int[LISTS * MOST_WHENS];
        private final int[] ruleNumbers = new int[LISTS * MOST_WHENS];
        private final int[] from = new int[MOST_EDGES];
        private final int[] to = new int[MOST_EDGES];
        private final int[] setCounts = new int[MOST_EDGES];
        private final int[] setClocks = new int[MOST_EDGES * MOST_SETS];
        private final int[] setNumbers = new int[MOST_EDGES * MOST_SETS];

        private void clear() {
            lines = 0;
            clocks = 0;
            places = 0;
            edges = 0;
            start = 0;
            started = false;
            Arrays.fill(greats, 0);
            Arrays.fill(ruleCounts, 0);
            Arrays.fill(setCounts, 0);
        }

        private int clockNamed(int name) {
            return indexIn(clockNames, clocks, name);
        }

        private int placeNamed(int name) {
            return indexIn(placeNames, places, name);
        }

        private static int indexIn(int[] names, int count, int name) {
            for (int k = 0; k < count; k++) {
                if (names[k] == name) {
                    return k;
                }
            }
            return NONE;
        }

        private void addRule(int list, int clock, int rel, int number) {
            int at = list * MOST_WHENS + ruleCounts[list];
            ruleClocks[at] = clock;
            ruleRels[at] = rel;
            ruleNumbers[at] = number;
            ruleCounts[list]++;
            greats[clock] = Math.max(greats[clock], number);
        }

        private void addSet(int e, int clock, int number) {
            int at = e * MOST_SETS + setCounts[e];
            setClocks[at] = clock;
            setNumbers[at] = number;
            setCounts[e]++;
            greats[clock] = Math.max(greats[clock], number);
        }

        /** The number to which an EDGE sets a CLOCK, NONE if it doesn't. */
        private int numberSet(int e, int clock) {
            for (int k = 0; k < setCounts[e]; k++) {
                if (setClocks[e * MOST_SETS + k] == clock) {
                    return setNumbers[e * MOST_SETS + k];
                }
            }
            return NONE;
        }

        private int edgesFrom(int p) {
            int total = 0;
            for (int e = 0; e < edges; e++) {
                total += from[e] == p ? 1 : 0;
            }
            return total;
        }

        private int edgesTo(int p) {
            int total = 0;
            for (int e = 0; e < edges; e++) {
                total += to[e] == p ? 1 : 0;
            }
            return total;
        }

        private int edgesThatSet(int clock) {
            int bits = 0;
            for (int e = 0; e < edges; e++) {
                if (numberSet(e, clock) != NONE) {
                    bits |= 1 << e;
                }
            }
            return bits;
        }

        /** Which of so many lists from one on have a when of a CLOCK. */
        private int listsWith(int clock, int firstList, int many) {
            int bits = 0;
            for (int k = 0; k < many; k++) {
                if (hasRuleOf(firstList + k, clock)) {
                    bits |= 1 << k;
                }
            }
            return bits;
        }

        private boolean hasRuleOf(int list, int clock) {
            for (int k = 0; k < ruleCounts[list]; k++) {
                if (ruleClocks[list * MOST_WHENS + k] == clock) {
                    return true;
                }
            }
            return false;
        }

        private int placesBehind(int p) {
            int bits = 1 << p;
            // Each round but the last finds a PLACE, so as many rounds as PLACES are enough.
            for (int round = 0; round < places; round++) {
                for (int e = 0; e < edges; e++) {
                    if ((bits >> from[e] & 1) == 1) {
                        bits |= 1 << to[e];
                    }
                }
            }
            return bits;
        }
    }

    /** Holds the TAPE, and reads it token by token; a fault is told at the token looked at. */
    private static final class Reader {
        private final byte[] tape = new byte[MOST_TAPE];
        private int taped = 0;
        /** Where a text is read to; without a fault it changes places with the plan that holds. */
        private Plan fresh = new Plan();
        private int length = 0;
        private int pos = 0;
        private int kind = TOKEN_END;
        private int at = 0;
        /** A word's code, a number, or which REL: as the kind of the token is. */
        private int number = 0;
        private int faultKind = 0;
        private int faultAt = NONE;

        private void putBytes(int four) {
            for (int shift = 24; shift >= 0 && taped < MOST_TAPE; shift -= 8) {
                tape[taped] = (byte) (four >> shift);
                taped++;
            }
        }

        private boolean readText(int many) {
            fresh.clear();
            length = Math.min(many, MOST_TAPE);
            pos = 0;
            faultKind = 0;
            faultAt = NONE;
            advance();
            // A LINE has at least one byte, so there are never more LINES than bytes.
            for (int line = 0; line < length && kind != TOKEN_END; line++) {
                if (!readLine()) {
                    return false;
                }
                fresh.lines++;
            }
            return fresh.places > 0 || fail(FAULT_NO_PLACE);
        }

        private boolean fail(int what) {
            faultKind = what;
            faultAt = at;
            return false;
        }

        private boolean readLine() {
            switch (kind) {
                case TOKEN_CLOCK:
                    return readClock() && endLine();
                case TOKEN_PLACE:
                    return readPlace() && endLine();
                case TOKEN_EDGE:
                    return readEdge() && endLine();
                case TOKEN_START:
                    return readStart() && endLine();
                default:
                    return fail(FAULT_TOKEN);
            }
        }

        private boolean endLine() {
            if (kind != TOKEN_SEMICOLON) {
                return fail(FAULT_TOKEN);
            }
            advance();
            return true;
        }

        private boolean readClock() {
            if (fresh.clocks >= MOST_CLOCKS) {
                return fail(FAULT_LIMIT);
            }
            advance();
            if (kind != TOKEN_WORD) {
                return fail(FAULT_TOKEN);
            }
            if (fresh.clockNamed(number) != NONE) {
                return fail(FAULT_AGAIN);
            }
            fresh.clockNames[fresh.clocks] = number;
            fresh.clocks++;
            advance();
            return true;
        }

        private boolean readPlace() {
            if (fresh.places >= MOST_PLACES) {
                return fail(FAULT_LIMIT);
            }
            advance();
            if (kind != TOKEN_WORD) {
                return fail(FAULT_TOKEN);
            }
            if (fresh.placeNamed(number) != NONE) {
                return fail(FAULT_AGAIN);
            }
            int p = fresh.places;
            fresh.placeNames[p] = number;
            fresh.places++;
            advance();
            return readWhens(stayRules(p));
        }

        private boolean readEdge() {
            if (fresh.edges >= MOST_EDGES) {
                return fail(FAULT_LIMIT);
            }
            int e = fresh.edges;
            advance();
            int from = placeHere();
            if (from == NONE) {
                return fail(FAULT_TOKEN);
            }
            advance();
            int to = placeHere();
            if (to == NONE) {
                return fail(FAULT_TOKEN);
            }
            advance();
            fresh.from[e] = from;
            fresh.to[e] = to;
            fresh.edges++;
            return readWhens(edgeRules(e)) && readSets(e);
        }

        private boolean readStart() {
            if (fresh.started) {
                return fail(FAULT_AGAIN);
            }
            advance();
            int p = placeHere();
            if (p == NONE) {
                return fail(FAULT_TOKEN);
            }
            fresh.start = p;
            fresh.started = true;
            advance();
            return true;
        }

        private boolean readWhens(int list) {
            for (int k = 0; k <= MOST_WHENS && kind == TOKEN_WHEN; k++) {
                if (k == MOST_WHENS) {
                    return fail(FAULT_LIMIT);
                }
                advance();
                int clock = clockHere();
                if (clock == NONE) {
                    return fail(FAULT_TOKEN);
                }
                advance();
                if (kind != TOKEN_REL) {
                    return fail(FAULT_TOKEN);
                }
                int rel = number;
                advance();
                if (!numberHere()) {
                    return false;
                }
                fresh.addRule(list, clock, rel, number);
                advance();
            }
            return true;
        }

        private boolean readSets(int e) {
            for (int k = 0; k <= MOST_SETS && kind == TOKEN_SET; k++) {
                if (k == MOST_SETS) {
                    return fail(FAULT_LIMIT);
                }
                advance();
                int clock = clockHere();
                if (clock == NONE) {
                    return fail(FAULT_TOKEN);
                }
                if (fresh.numberSet(e, clock) != NONE) {
                    return fail(FAULT_AGAIN);
                }
                advance();
                if (!numberHere()) {
                    return false;
                }
                fresh.addSet(e, clock, number);
                advance();
            }
            return true;
        }

        private int clockHere() {
            return kind == TOKEN_WORD ? fresh.clockNamed(number) : NONE;
        }

        private int placeHere() {
            return kind == TOKEN_WORD ? fresh.placeNamed(number) : NONE;
        }

        private boolean numberHere() {
            if (kind != TOKEN_NUMBER) {
                return fail(FAULT_TOKEN);
            }
            return number <= GREATEST_NUMBER || fail(FAULT_LIMIT);
        }

        private void advance() {
            while (pos < length && (tape[pos] == 10 || tape[pos] == 32)) {
                pos++;
            }
            at = pos;
            if (pos >= length) {
                kind = TOKEN_END;
            } else if (tape[pos] >= 'a' && tape[pos] <= 'z') {
                readWord();
            } else if (tape[pos] >= '0' && tape[pos] <= '9') {
                readDigits();
            } else {
                readSign();
            }
        }

        private void readWord() {
            number = 0;
            while (pos < length && tape[pos] >= 'a' && tape[pos] <= 'z') {
                // A longer word is none at all, so that its code may overflow.
                number = number << LETTER_BITS | tape[pos] & LETTER_MASK;
                pos++;
            }
            kind = TOKEN_WORD;
            if (pos - at > LONGEST_WORD) {
                kind = TOKEN_BAD;
            } else if (number == WORD_CLOCK) {
                kind = TOKEN_CLOCK;
            } else if (number == WORD_PLACE) {
                kind = TOKEN_PLACE;
            } else if (number == WORD_EDGE) {
                kind = TOKEN_EDGE;
            } else if (number == WORD_START) {
                kind = TOKEN_START;
            } else if (number == WORD_WHEN) {
                kind = TOKEN_WHEN;
            } else if (number == WORD_SET) {
                kind = TOKEN_SET;
            }
        }

        private void readDigits() {
            kind = TOKEN_NUMBER;
            number = 0;
            while (pos < length && tape[pos] >= '0' && tape[pos] <= '9') {
                // Once above 50 it stays so, however many digits come.
                number = Math.min(number * 10 + tape[pos] - '0', GREATEST_NUMBER + 1);
                pos++;
            }
        }

        private void readSign() {
            int sign = tape[pos];
            pos++;
            boolean equal = pos < length && tape[pos] == '=';
            kind = TOKEN_REL;
            if (sign == ';') {
                kind = TOKEN_SEMICOLON;
            } else if (sign == '=') {
                number = REL_EQUAL;
            } else if (sign == '<') {
                number = equal ? REL_AT_MOST : REL_LESS;
                pos += equal ? 1 : 0;
            } else if (sign == '>') {
                number = equal ? REL_AT_LEAST : REL_MORE;
                pos += equal ? 1 : 0;
            } else {
                kind = TOKEN_BAD;
            }
        }
    }

    /**
     * A TABLE, always CLOSED: the cell of i and j is the BOUND of i less j; 0 is ZERO, c + 1 the
     * CLOCK c. If it is EMPTY, the cells mean nothing.
     */
    private static final class Zone {
        private final int[] cells = new int[SIDE * SIDE];
        private int size;
        private boolean vacant;

        private Zone() {
            size = 1;
            vacant = false;
            Arrays.fill(cells, AT_MOST_ZERO);
        }

        private int cell(int i, int j) {
            return cells[i * SIDE + j];
        }

        private void put(int i, int j, int bound) {
            cells[i * SIDE + j] = bound;
        }

        /** The least number that clock c may have, or come near to. */
        private int leastOf(int c) {
            return -numberOf(cell(0, c));
        }

        private void layZero(int many) {
            size = many;
            vacant = false;
            Arrays.fill(cells, AT_MOST_ZERO);
        }

        private void layAll(int many) {
            layZero(many);
            for (int c = 1; c < size; c++) {
                release(c);
            }
        }

        private void layNothing(int many) {
            layZero(many);
            vacant = true;
        }

        private void become(Zone other) {
            size = other.size;
            vacant = other.vacant;
            System.arraycopy(other.cells, 0, cells, 0, cells.length);
        }

        /** As the other one, with one clock more, which is 0. */
        private void becomeTimed(Zone other) {
            become(other);
            if (size >= SIDE) {
                return;
            }
            int extra = size;
            size++;
            put(extra, extra, AT_MOST_ZERO);
            assign(extra, 0);
        }

        private void relate(int i, int j, int rel, int n) {
            tighten(i, j, upperOf(rel, n));
            tighten(j, i, lowerOf(rel, n));
        }

        /** Those of the times by which i less j keeps the bound, too. */
        private void tighten(int i, int j, int bound) {
            if (vacant || bound >= cell(i, j)) {
                return;
            }
            if (sumOf(bound, cell(j, i)) < AT_MOST_ZERO) {
                vacant = true;
                return;
            }
            for (int k = 0; k < size; k++) {
                int head = sumOf(cell(k, i), bound);
                for (int l = 0; l < size && head < NO_BOUND; l++) {
                    put(k, l, Math.min(cell(k, l), sumOf(head, cell(j, l))));
                }
            }
        }

        private void keepRules(Plan plan, int list) {
            for (int k = 0; k < plan.ruleCounts[list]; k++) {
                int rule = list * MOST_WHENS + k;
                int clock = plan.ruleClocks[rule] + 1;
                tighten(clock, 0, upperOf(plan.ruleRels[rule], plan.ruleNumbers[rule]));
                tighten(0, clock, lowerOf(plan.ruleRels[rule], plan.ruleNumbers[rule]));
            }
        }

        private void applySets(Plan plan, int e) {
            for (int k = 0; k < plan.setCounts[e]; k++) {
                int at = e * MOST_SETS + k;
                assign(plan.setClocks[at] + 1, plan.setNumbers[at]);
            }
        }

        private void goUp() {
            for (int c = 1; c < size; c++) {
                put(c, 0, NO_BOUND);
            }
        }

        private void goDown() {
            for (int c = 1; c < size; c++) {
                int least = AT_MOST_ZERO;
                for (int j = 1; j < size; j++) {
                    least = Math.min(least, cell(j, c));
                }
                put(0, c, least);
            }
        }

        private void assign(int c, int n) {
            for (int j = 0; j < size; j++) {
                if (j != c) {
                    put(c, j, sumOf(atMost(n), cell(0, j)));
                    put(j, c, sumOf(cell(j, 0), atMost(-n)));
                }
            }
        }

        private void release(int c) {
            for (int j = 0; j < size; j++) {
                if (j != c) {
                    put(c, j, NO_BOUND);
                    put(j, c, cell(j, 0));
                }
            }
        }

        private void waitIn(Plan plan, int p) {
            keepRules(plan, stayRules(p));
            goUp();
            keepRules(plan, stayRules(p));
        }

        private void stepBy(Plan plan, int e) {
            int stay = stayRules(plan.to[e]);
            keepRules(plan, edgeRules(e));
            applySets(plan, e);
            keepRules(plan, stay);
            goUp();
            keepRules(plan, stay);
        }

        private void stepBackBy(Plan plan, int e) {
            keepRules(plan, stayRules(plan.to[e]));
            for (int k = 0; k < plan.setCounts[e]; k++) {
                int at = e * MOST_SETS + k;
                relate(plan.setClocks[at] + 1, 0, REL_EQUAL, plan.setNumbers[at]);
            }
            for (int k = 0; k < plan.setCounts[e]; k++) {
                release(plan.setClocks[e * MOST_SETS + k] + 1);
            }
            keepRules(plan, edgeRules(e));
        }

        private void widenTo(Zone other) {
            if (other.vacant) {
                return;
            }
            if (vacant) {
                become(other);
                return;
            }
            for (int k = 0; k < cells.length; k++) {
                cells[k] = Math.max(cells[k], other.cells[k]);
            }
        }

        private void narrowTo(Zone other) {
            if (vacant || other.vacant) {
                vacant = true;
                return;
            }
            for (int k = 0; k < cells.length; k++) {
                cells[k] = Math.min(cells[k], other.cells[k]);
            }
            close();
        }

        private boolean covers(Zone other) {
            if (vacant || other.vacant) {
                return other.vacant;
            }
            for (int i = 0; i < size; i++) {
                for (int j = 0; j < size; j++) {
                    if (other.cell(i, j) > cell(i, j)) {
                        return false;
                    }
                }
            }
            return true;
        }

        private void roughen(Plan plan) {
            if (vacant) {
                return;
            }
            for (int i = 0; i < size; i++) {
                for (int j = 0; j < size; j++) {
                    if (i != j) {
                        put(i, j, roughBound(cell(i, j), greatOf(plan, i), greatOf(plan, j)));
                    }
                }
            }
            close();
        }

        private static int greatOf(Plan plan, int c) {
            return c == 0 ? 0 : plan.greats[c - 1];
        }

        private static int roughBound(int bound, int greatOfX, int greatOfY) {
            if (bound >= NO_BOUND || numberOf(bound) > greatOfX) {
                return NO_BOUND;
            }
            return numberOf(bound) < -greatOfY ? lessThan(-greatOfY) : bound;
        }

        /** The whole times alone: every BOUND is one that whole numbers reach. */
        private void keepWhole() {
            for (int k = 0; k < cells.length; k++) {
                cells[k] = wholeBound(cells[k]);
            }
            close();
        }

        private void close() {
            vacant = vacant || !closeCells(cells, SIDE, size);
        }

        private boolean goesBeyond(int limit) {
            if (vacant) {
                return false;
            }
            for (int i = 0; i < size; i++) {
                for (int j = 0; j < size; j++) {
                    int bound = cell(i, j);
                    if (bound < NO_BOUND && Math.abs(numberOf(bound)) > limit) {
                        return true;
                    }
                }
            }
            return false;
        }

        private boolean holdsHalves(int[] halves) {
            if (vacant) {
                return false;
            }
            for (int i = 0; i < size; i++) {
                for (int j = 0; j < size; j++) {
                    // Neither is below 0, so the difference fits; a bound is told in halves, too,
                    // and one more if it is reached.
                    if (cell(i, j) < NO_BOUND && halves[i] - halves[j] >= cell(i, j)) {
                        return false;
                    }
                }
            }
            return true;
        }

        private boolean countsAsPair(int x, int y, int what) {
            int bound = cell(x, y);
            if (bound >= NO_BOUND) {
                return false;
            }
            if (what == 0) {
                return true;
            }
            return what == 1 ? reachedOf(bound) == 1 : !followsFromOthers(x, y);
        }

        private boolean followsFromOthers(int x, int y) {
            for (int z = 0; z < size; z++) {
                if (z != x && z != y && sumOf(cell(x, z), cell(z, y)) <= cell(x, y)) {
                    return true;
                }
            }
            return false;
        }
    }

    /**
     * Makes a square of BOUNDS CLOSED; false if nothing keeps them. It ends at the first pivot that
     * is below itself, as the numbers would grow without measure behind it.
     */
    private static boolean closeCells(int[] cells, int side, int size) {
        for (int k = 0; k < size; k++) {
            if (cells[k * side + k] < AT_MOST_ZERO) {
                return false;
            }
            for (int i = 0; i < size; i++) {
                int head = cells[i * side + k];
                for (int j = 0; j < size && head < NO_BOUND; j++) {
                    int through = sumOf(head, cells[k * side + j]);
                    if (through < cells[i * side + j]) {
                        cells[i * side + j] = through;
                    }
                }
            }
        }
        return true;
    }

    /** The NODES, and the WAY to a PLACE. */
    private static final class Graph {
        private final Zone[] zones = new Zone[MOST_NODES];
        private final int[] places = new int[MOST_NODES];
        private final int[] parents = new int[MOST_NODES];
        private final int[] edges = new int[MOST_NODES];
        private final int[] depths = new int[MOST_NODES];
        private final int[] opens = new int[MOST_NODES];
        private final int[] firsts = new int[MOST_PLACES];
        private final int[] way = new int[MOST_NODES];
        private final Zone work = new Zone();
        private int count = 0;

        private Graph() {
            for (int k = 0; k < MOST_NODES; k++) {
                zones[k] = new Zone();
            }
            Arrays.fill(firsts, -2);
        }

        private void build(Plan plan) {
            count = 0;
            Arrays.fill(firsts, -2);
            work.layZero(plan.clocks + 1);
            work.waitIn(plan, plan.start);
            work.roughen(plan);
            if (work.vacant) {
                return;
            }
            append(plan.start, -2, -2, 0);
            for (int k = 0; k < count && count < MOST_NODES; k++) {
                for (int e = 0; e < plan.edges && count < MOST_NODES; e++) {
                    if (plan.from[e] == places[k]) {
                        grow(plan, k, e);
                    }
                }
            }
        }

        private void grow(Plan plan, int k, int e) {
            work.become(zones[k]);
            work.stepBy(plan, e);
            work.roughen(plan);
            if (!work.vacant && !isCovered(plan.to[e])) {
                append(plan.to[e], k, e, depths[k] + 1);
            }
        }

        private boolean isCovered(int p) {
            for (int k = 0; k < count; k++) {
                if (places[k] == p && zones[k].covers(work)) {
                    return true;
                }
            }
            return false;
        }

        private void append(int p, int parent, int e, int depth) {
            if (count >= MOST_NODES) {
                return;
            }
            zones[count].become(work);
            places[count] = p;
            parents[count] = parent;
            edges[count] = e;
            depths[count] = depth;
            opens[count] = NONE;
            if (firsts[p] < 0) {
                firsts[p] = count;
            }
            count++;
        }

        private int nodesOf(int p) {
            int total = 0;
            for (int k = 0; k < count; k++) {
                total += places[k] == p ? 1 : 0;
            }
            return total;
        }

        private boolean hasNodeBy(int e) {
            for (int k = 0; k < count; k++) {
                if (edges[k] == e) {
                    return true;
                }
            }
            return false;
        }

        /** Lays out the WAY to a PLACE: how many EDGES it has, -2 if there is none. */
        private int findWay(int p) {
            int k = firsts[p];
            if (k < 0) {
                return -2;
            }
            int length = depths[k];
            for (int i = length - 1; i >= 0 && k >= 0; i--) {
                way[i] = edges[k];
                k = parents[k];
            }
            return length;
        }

        /** The NODES never change behind a text, so what was found once is kept. */
        private int openEdges(Plan plan, int k) {
            if (opens[k] != NONE) {
                return opens[k];
            }
            int bits = 0;
            for (int e = 0; e < plan.edges; e++) {
                if (plan.from[e] == places[k]) {
                    work.become(zones[k]);
                    work.stepBy(plan, e);
                    bits |= work.vacant ? 0 : 1 << e;
                }
            }
            opens[k] = bits;
            return bits;
        }
    }

    /** The TRACE. */
    private static final class Path {
        private final int[] edges = new int[MOST_TRACE];
        private int length = 0;

        private int endIn(Plan plan) {
            return length == 0 ? plan.start : plan.to[edges[length - 1]];
        }

        /** The latest EDGE ahead of the i-th that sets a CLOCK, NONE if none does. */
        private int setterAhead(Plan plan, int i, int clock) {
            for (int k = i - 1; k >= 0; k--) {
                if (plan.numberSet(edges[k], clock) != NONE) {
                    return k;
                }
            }
            return NONE;
        }
    }

    /**
     * All TIMES of a TRACE, as a square of BOUNDS between moments: 0 is the origin of time, i + 1
     * when the i-th EDGE is taken. What a CLOCK has is the time since it was set and that number.
     */
    private static final class Times {
        private final int[] gaps = new int[MOMENTS * MOMENTS];
        private final int[] wholeGaps = new int[MOMENTS * MOMENTS];
        private final int[] setMoments = new int[MOST_CLOCKS];
        private final int[] setNumbers = new int[MOST_CLOCKS];
        private boolean stale = true;
        private boolean wholeStale = true;
        private boolean can = false;
        private boolean canWhole = false;

        private void build(Plan plan, Path path) {
            int size = path.length + 1;
            Arrays.fill(gaps, NO_BOUND);
            Arrays.fill(setMoments, 0);
            Arrays.fill(setNumbers, 0);
            for (int m = 0; m < size; m++) {
                lower(m, m, AT_MOST_ZERO);
            }
            keepRules(plan, stayRules(plan.start), 0);
            for (int i = 0; i < path.length; i++) {
                takeEdge(plan, path.edges[i], i + 1);
            }
            can = closeCells(gaps, MOMENTS, size);
            stale = false;
            wholeStale = true;
        }

        private void buildWhole(Path path) {
            for (int k = 0; k < gaps.length; k++) {
                wholeGaps[k] = wholeBound(gaps[k]);
            }
            canWhole = can && closeCells(wholeGaps, MOMENTS, path.length + 1);
            wholeStale = false;
        }

        private void takeEdge(Plan plan, int e, int moment) {
            lower(moment - 1, moment, AT_MOST_ZERO);
            keepRules(plan, stayRules(plan.from[e]), moment);
            keepRules(plan, edgeRules(e), moment);
            for (int k = 0; k < plan.setCounts[e]; k++) {
                int at = e * MOST_SETS + k;
                setMoments[plan.setClocks[at]] = moment;
                setNumbers[plan.setClocks[at]] = plan.setNumbers[at];
            }
            keepRules(plan, stayRules(plan.to[e]), moment);
        }

        /** A CLOCK set at the moment itself gives a BOUND of that beside itself: kept, or never. */
        private void keepRules(Plan plan, int list, int moment) {
            for (int k = 0; k < plan.ruleCounts[list]; k++) {
                int rule = list * MOST_WHENS + k;
                int clock = plan.ruleClocks[rule];
                int rel = plan.ruleRels[rule];
                int n = plan.ruleNumbers[rule] - setNumbers[clock];
                lower(moment, setMoments[clock], upperOf(rel, n));
                lower(setMoments[clock], moment, lowerOf(rel, n));
            }
        }

        private void lower(int i, int j, int bound) {
            int at = i * MOMENTS + j;
            gaps[at] = Math.min(gaps[at], bound);
        }

        /** From one moment to a later one, and a number more: the least, the greatest. */
        private int span(int early, int late, int more, int what) {
            int least = gaps[early * MOMENTS + late];
            int greatest = gaps[late * MOMENTS + early];
            switch (what) {
                case 0:
                    return more - numberOf(least);
                case 1:
                    return reachedOf(least);
                case 2:
                    return greatest >= NO_BOUND ? 10000 : more + numberOf(greatest);
                default:
                    return greatest >= NO_BOUND ? 0 : reachedOf(greatest);
            }
        }

        /** The earliest of each moment alone is kept by all together, so no search is due. */
        private int leastWhole(int moment) {
            return -numberOf(wholeGaps[moment]);
        }
    }

    /** Goes along a row of EDGES with the exact times, and one clock more that is never set. */
    private static final class Walk {
        private final Zone zone = new Zone();

        /** The first EDGE up to which the row can't be; -2: it can, -3: not even without EDGES. */
        private int breakIn(Plan plan, int[] row, int many) {
            zone.layZero(plan.clocks + 2);
            zone.keepRules(plan, stayRules(plan.start));
            if (zone.vacant) {
                return many == 0 ? -3 : 0;
            }
            for (int i = 0; i < many; i++) {
                goAlong(plan, row[i]);
                if (zone.vacant) {
                    return i;
                }
            }
            return -2;
        }

        private void goAlong(Plan plan, int e) {
            zone.goUp();
            zone.keepRules(plan, stayRules(plan.from[e]));
            zone.keepRules(plan, edgeRules(e));
            zone.applySets(plan, e);
            zone.keepRules(plan, stayRules(plan.to[e]));
        }
    }

    /** What can be undone: a ring of TABLES and TRACES as they were. */
    private static final class History {
        private final int[] owners = new int[MOST_UNDOS];
        private final Zone[] zones = new Zone[MOST_UNDOS];
        private final int[] rows = new int[MOST_UNDOS * MOST_TRACE];
        private final int[] lengths = new int[MOST_UNDOS];
        private int next = 0;
        private int count = 0;

        private History() {
            for (int k = 0; k < MOST_UNDOS; k++) {
                zones[k] = new Zone();
            }
        }

        private void forgetAll() {
            next = 0;
            count = 0;
        }

        private void keepTable(int t, Zone zone) {
            owners[next] = t;
            zones[next].become(zone);
            goOn();
        }

        private void keepPath(Path path) {
            owners[next] = NONE;
            lengths[next] = path.length;
            System.arraycopy(path.edges, 0, rows, next * MOST_TRACE, MOST_TRACE);
            goOn();
        }

        private void goOn() {
            next = (next + 1) % MOST_UNDOS;
            count = Math.min(count + 1, MOST_UNDOS);
        }

        private int dropLatest() {
            next = (next + MOST_UNDOS - 1) % MOST_UNDOS;
            count--;
            return next;
        }

        private void restorePath(int slot, Path path) {
            path.length = lengths[slot];
            System.arraycopy(rows, slot * MOST_TRACE, path.edges, 0, MOST_TRACE);
        }
    }
}
