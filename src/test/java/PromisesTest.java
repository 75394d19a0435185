import java.util.NoSuchElementException;

/** One group of checks for each promise of the document: ordinary inputs, edges, wrong inputs. */
public final class PromisesTest {
    private static final Probe PROBE = new Probe("promises");
    private static final int LEAST = Integer.MIN_VALUE;
    private static final int MOST = Integer.MAX_VALUE;
    private static final String MAIN = "clock x;clock y;place a when x <= 5;place b when y < 3;place c;"
            + "edge a b when x >= 2 set y 0;edge b a when y > 1 set x 0;edge b c when x = 4;start a;";
    private static final String TWO = "clock x;clock y;place a;";

    private static void due(String what, long want, long got) {
        PROBE.due(what, want, got);
    }

    /** 1: IndexOutOfBoundsException, 2: NoSuchElementException, else 1000 and the answer. */
    private static int placeOrThrow(ClockZones z, int p, int what) {
        try {
            return 1000 + z.place(p, what);
        } catch (IndexOutOfBoundsException e) {
            return 1;
        } catch (NoSuchElementException e) {
            return 2;
        }
    }

    private static int edgeOrThrow(ClockZones z, int e, int what) {
        try {
            return 1000 + z.edge(e, what);
        } catch (IndexOutOfBoundsException x) {
            return 1;
        } catch (NoSuchElementException x) {
            return 2;
        }
    }

    private static void bounds(String what, ClockZones z, int t, int x, int y, int number, int reached) {
        due(what + " bound " + x + " " + y, number, z.bound(t, x, y, 0));
        due(what + " reached " + x + " " + y, reached, z.bound(t, x, y, 1));
    }

    private static void window(String what, ClockZones z, int i, int least, int r, int greatest, int s) {
        int[] want = {least, r, greatest, s};
        for (int k = 0; k < 4; k++) {
            due(what + " window " + i + " " + k, want[k], z.window(i, k));
        }
    }

    private static void faultOf(String text, int kind, int at) {
        ClockZones z = Probe.of("clock q;place q;");
        due("text " + text, kind == 0 ? 1 : 0, Probe.tell(z, text) >= 0 ? 1 : 0);
        due("fault of " + text, kind, z.fault(0));
        due("fault's place of " + text, at, z.fault(1));
    }

    private static String times(String piece, int many) {
        StringBuilder all = new StringBuilder();
        for (int k = 0; k < many; k++) {
            all.append(piece);
        }
        return all.toString();
    }

    // 1
    private static void newObject() {
        ClockZones z = new ClockZones();
        for (int what = 0; what < 8; what++) {
            due("new count " + what, what == 4 ? -1 : 0, z.count(what));
        }
        due("new fault", 0, z.fault(0));
        due("new fault's place", -1, z.fault(1));
        due("new undo", -1, z.undo());
        for (int t = 0; t < 4; t++) {
            due("new table", 0, z.empty(t));
            due("new table has", 1, z.has(t, 7, 7, 7, 7));
        }
        due("NONE", -1, ClockZones.NONE);
    }

    // 2
    private static void feed() {
        ClockZones z = new ClockZones();
        for (int k = 1; k <= 45; k++) {
            due("feed", 20 * k, z.feed(538976288, 538976288, 538976288, 538976288, 538976288));
        }
        due("feed beyond 900", -1, z.feed(0, 0, 0, 0, 0));
        due("tape", 900, z.count(7));
        due("text of 900", -1, z.text(900));
        due("fault at the end", 900, z.fault(1));
        due("feed anew", 20, z.feed(-1, LEAST, MOST, 0, 1));
        due("text of bytes above 127", -1, z.text(20));
        due("such a byte is no token", 1, z.fault(0));
        due("at", 0, z.fault(1));
        // The highest byte comes first.
        z.feed('p' << 24 | 'l' << 16 | 'a' << 8 | 'c', 'e' << 24 | ' ' << 16 | 'a' << 8 | ';', 0, 0, 0);
        due("order of bytes", 1, z.text(8));
    }

    // 3
    private static void text() {
        ClockZones z = new ClockZones();
        due("text more than the tape", -2, z.text(1));
        due("text below 0", -2, z.text(-1));
        due("text least", -2, z.text(LEAST));
        due("no fault by -2", 0, z.fault(0));
        Probe.feedAll(z, MAIN);
        int tape = z.count(7);
        due("text of one too many", -2, z.text(tape + 1));
        due("tape stays", tape, z.count(7));
        due("text", 9, z.text(MAIN.length()));
        due("tape is empty", 0, z.count(7));
        z.lay(1, 1);
        z.add(0);
        due("undos", 2, z.count(6));
        Probe.feedAll(z, "place");
        due("faulty text", -1, z.text(5));
        due("tape is empty behind a fault", 0, z.count(7));
        due("undos stay", 2, z.count(6));
        due("trace stays", 1, z.count(5));
        due("clocks stay", 2, z.count(1));
        due("lines stay", 9, z.count(0));
        due("nodes stay", 4, z.nodes());
        due("table stays", 1000, z.bound(1, 0, -1, 0));
        due("next text", 2, Probe.tell(z, "clock u;place v;"));
        due("no undos", 0, z.count(6));
        due("trace is empty", 0, z.count(5));
        due("clocks", 1, z.count(1));
        due("edges", 0, z.count(3));
        due("table is all 0", 0, z.bound(1, 0, -1, 0));
        due("great anew", 0, z.great(0));
        due("place anew", 1000, placeOrThrow(z, 0, 0));
        due("nodes anew", 1, z.nodes());
        due("start without", 0, z.count(4));
        due("start", 3, Probe.tell(z, "place u;place v;start v;"));
        due("start is told", 1, z.count(4));
        due("names of clocks and places may be alike", 3, Probe.tell(z, "clock u;place u;edge u u when u<1set u 3;"));
        due("blanks", 2, Probe.tell(z, "\n clock\n\nu ; place v\nwhen u >=00050\n;\n "));
        due("digits", 50, z.great(0));
    }

    /** What an earlier text told is nowhere in a later one. */
    private static void textsAnew() {
        ClockZones z = Probe.of("place a;place b;edge a b;edge b a;start b;");
        due("can", 1, z.can());
        Probe.tell(z, "clock x;place a when x>0;");
        due("can't, by the new text", 0, z.can());
        Probe.tell(z, "place c;place d;");
        due("start anew", 0, z.count(4));
        due("edges anew", 0, z.count(3));
        due("leads anew", 1, z.leads(0));
        due("stuck anew", 0, z.stuck());
        due("can anew", 1, z.can());
        Probe.tell(z, "clock x;place a;edge a a when x<1 set x 7;");
        Probe.tell(z, "place a;");
        Probe.tell(z, "clock x;place a;edge a a;");
        due("whens anew", -2, z.when(0, 0, 0));
        due("sets anew", -2, z.set(0, 0, 0));
        due("great anew", 0, z.great(0));
        due("tells anew", 0, z.tells(0, 0) + z.tells(0, 1) + z.tells(0, 2));
    }

    /** As many of each as there may be. */
    private static void fullText() {
        StringBuilder text = new StringBuilder("clock a;clock b;clock c;clock d;");
        for (char p = 'a'; p <= 'h'; p++) {
            text.append("place ").append(p).append(p == 'h' ? times(" when d<=9", 6) : "").append(";");
        }
        for (int e = 0; e < 16; e++) {
            text.append("edge ").append((char) ('a' + e % 8)).append((char) 32).append((char) ('a' + (e + 1) % 8));
            text.append(e == 15 ? times(" when d>1", 6) + "set a 1set b 2set c 3set d 4" : "").append(";");
        }
        ClockZones z = new ClockZones();
        due("full text", 28, Probe.tell(z, text.toString()));
        due("full tells", 32768, z.tells(3, 0));
        due("full tells", 32768, z.tells(0, 1));
        due("full tells", 128, z.tells(3, 2));
        due("full leads", 255, z.leads(7));
        due("full great", 9, z.great(3));
        due("last when", 1, z.when(15, 5, 2));
        due("last set", 4, z.set(15, 3, 1));
        due("none beyond", -2, z.when(15, 6, 0));
        due("none beyond", -2, z.set(15, 4, 0));
        due("last place's stay", 6, z.place(7, 0));
        due("full deepest", 7, z.deepest(0));
        due("full reached", 255, z.reached());
        due("full open", 32896, z.open(z.place(7, 3)));
        due("step by the last", 0, z.step(0, 15));
        due("longest in the last", 9, z.longest(1, 7, 0));
        due("soonest of the last", 1, z.soonest(1, 15, 0));
        due("fastest to the last", 0, z.fastest(7, 0));
    }

    // 4
    private static void fault() {
        ClockZones z = new ClockZones();
        Probe.tell(z, "clock x;");
        z.text(99);
        due("fault stays by -2", 4, z.fault(0));
        due("fault's place stays by -2", 8, z.fault(1));
        due("no such fault", -1, z.fault(2));
        due("no such fault", -1, z.fault(-1));
        Probe.tell(z, "place x;");
        due("no fault", 0, z.fault(0));
        due("no fault's place", -1, z.fault(1));
        faultsOfTokens();
        faultsOfLimits();
        faultsOfNames();
        faultOf("", 4, 0);
        faultOf("  \n", 4, 3);
        faultOf("clock x;  ", 4, 10);
        faultOf("clock x", 1, 7);
    }

    private static void faultsOfTokens() {
        faultOf("place a;!", 1, 8);
        faultOf("place A;", 1, 6);
        faultOf("place a,", 1, 7);
        faultOf("place a;\t", 1, 8);
        faultOf("place a;\0", 1, 8);
        faultOf("\0place a;", 1, 0);
        faultOf("place a;\u0080", 1, 8);
        faultOf("place a;\r", 1, 8);
        faultOf("place abcdef;", 0, -1);
        faultOf("place abcdefg;", 1, 6);
        faultOf("place  abcdefghijklmnop", 1, 7);
        faultOf("place clock;", 1, 6);
        faultOf("place place;", 1, 6);
        faultOf("place edge;", 1, 6);
        faultOf("place start;", 1, 6);
        faultOf("place when;", 1, 6);
        faultOf("place set;", 1, 6);
        faultOf("place sets;", 0, -1);
        faultOf("place 7;", 1, 6);
        faultOf("place 77;", 1, 6);
        faultOf("place a1;", 1, 7);
        faultOf("place a;;", 1, 8);
        faultOf(";", 1, 0);
        faultOf("place a; b", 1, 9);
        faultOf("place a;edge a", 1, 14);
        faultOf("place a;edge a ", 1, 15);
        faultOf("place a;edge a b;place b;", 1, 15);
        faultOf("place a;edge b a;", 1, 13);
        faultOf("edge a a;place a;", 1, 5);
        faultOf("start a;place a;", 1, 6);
        faultOf("place a set a 1;", 1, 8);
        faultOf("clock x;place a when x<;", 1, 23);
        faultOf("clock x;place a when x<1 when", 1, 29);
        faultOf("clock x;place a when x<=1;", 0, -1);
        faultOf("clock x;place a when x< =1;", 1, 24);
        faultOf("clock x;place a when x=<1;", 1, 23);
        faultOf("clock x;place a when x==1;", 1, 23);
        faultOf("clock x;place a when x>=1;", 0, -1);
        faultOf("clock x;place a when x>>1;", 1, 23);
        faultOf("clock x;place a when a<1;", 1, 21);
        faultOf("place a when x<1;clock x;", 1, 13);
        faultOf("clock x;place a;edge a a set x 1 when x<1;", 1, 33);
        faultOf("clock x;place a;edge a a set x;", 1, 30);
        faultOf("clock x;place a;edge a a set x =1;", 1, 31);
        faultOf("clock x when x<1;", 1, 8);
        faultOf("place a;start a when", 1, 16);
    }

    private static void faultsOfLimits() {
        faultOf("clock x;place a when x<50;", 0, -1);
        faultOf("clock x;place a when x<51;", 2, 23);
        faultOf("clock x;place a when x< 4294967297;", 2, 24);
        faultOf("clock x;place a when x<" + times("0", 40) + "50;", 0, -1);
        faultOf("clock x;place a when x<" + times("9", 40) + ";", 2, 23);
        faultOf("clock x;place a;edge a a set x 51;", 2, 31);
        faultOf("clock a;clock b;clock c;clock d;place p;", 0, -1);
        faultOf("clock a;clock b;clock c;clock d; clock 5", 2, 33);
        faultOf("place a;place b;place c;place d;place e;place f;place g;place h;", 0, -1);
        faultOf("place a;place b;place c;place d;place e;place f;place g;place h;place", 2, 64);
        faultOf("place a;" + times("edge a a;", 16), 0, -1);
        faultOf("place a;" + times("edge a a;", 17), 2, 152);
        faultOf("clock x;place a" + times(" when x<1", 6) + ";", 0, -1);
        faultOf("clock x;place a" + times(" when x<1", 7) + ";", 2, 70);
        faultOf("clock x;place a;edge a a" + times(" when x<1", 6) + "set x 0;", 0, -1);
        faultOf("clock x;place a;edge a a" + times(" when x<1", 6) + " when", 2, 79);
        faultOf("clock a;clock b;clock c;clock d;place p;edge p p set a 1 set b 2 set c 3 set d 4;", 0, -1);
        faultOf("clock a;clock b;clock c;clock d;place p;edge p p set a 1 set b 2 set c 3 set d 4 set a 5;", 2, 81);
    }

    private static void faultsOfNames() {
        faultOf("clock x;clock x;", 3, 14);
        faultOf("place x;place x;", 3, 14);
        faultOf("place a;start a;start", 3, 16);
        faultOf("clock x;place a;edge a a set x 1 set x 51;", 3, 37);
        faultOf("clock x;place a;edge a a set x 1;edge a a set x 1;", 0, -1);
        faultOf("place a;place b;place a; !", 3, 22);
        faultOf("place a; !place a;", 1, 9);
    }

    // 5
    private static void place() {
        ClockZones z = Probe.of(MAIN + "place d when x<1 when x<2 when y<3;edge a c;edge a d when x>9;edge d d;");
        int[][] want = {{1, 3, 1, 0}, {1, 2, 1, 1}, {0, 0, 2, 2}, {3, 1, 2, -2}};
        for (int p = 0; p < 4; p++) {
            for (int what = 0; what < 4; what++) {
                due("place " + p + " " + what, 1000 + want[p][what], placeOrThrow(z, p, what));
            }
        }
        int all = 0;
        for (int p = 0; p < 4; p++) {
            all += z.place(p, 4);
        }
        due("nodes of all places", z.nodes(), all);
        due("nodes of none", 0, z.place(3, 4));
        due("no such place", 1, placeOrThrow(z, 4, 0));
        due("no such place", 1, placeOrThrow(z, -1, 0));
        due("neither", 1, placeOrThrow(z, LEAST, 9));
        due("no such what", 2, placeOrThrow(z, 0, 5));
        due("no such what", 2, placeOrThrow(z, 3, -1));
    }

    // 6
    private static void edge() {
        ClockZones z = Probe.of(MAIN + "edge a a when x > 5;edge c a when x<1 when y<1 set y 3 set x 2;");
        int[][] want = {{0, 1, 1, 1, 1}, {1, 0, 1, 1, 1}, {1, 2, 1, 0, 1}, {0, 0, 1, 0, 0}, {2, 0, 2, 2, 0}};
        for (int e = 0; e < 5; e++) {
            for (int what = 0; what < 5; what++) {
                due("edge " + e + " " + what, 1000 + want[e][what], edgeOrThrow(z, e, what));
            }
        }
        due("no such edge", 1, edgeOrThrow(z, 5, 0));
        due("no such edge", 1, edgeOrThrow(z, -1, 7));
        due("no such what", 2, edgeOrThrow(z, 0, 5));
        due("no such what", 2, edgeOrThrow(z, 4, LEAST));
    }

    // 7, 8, 9
    private static void whenSetGreat() {
        ClockZones z = Probe.of("clock x;clock y;clock v;place a when y <= 7;edge a a when y<1 when x<=2 when y=3 when x>=4 when y>5"
                + " set y 9 set x 6;edge a a;");
        int[] clocks = {1, 0, 1, 0, 1};
        for (int k = 0; k < 5; k++) {
            due("when's clock " + k, clocks[k], z.when(0, k, 0));
            due("when's rel " + k, k, z.when(0, k, 1));
            due("when's number " + k, k + 1, z.when(0, k, 2));
        }
        due("not so many whens", -2, z.when(0, 5, 0));
        due("not so many whens", -2, z.when(1, 0, 2));
        due("not so many whens", -2, z.when(0, MOST, 1));
        due("no such when", -1, z.when(0, -1, 0));
        due("no such edge's when", -1, z.when(2, 0, 0));
        due("no such edge's when", -1, z.when(-1, 0, 0));
        due("no such what of a when", -1, z.when(0, 0, 3));
        due("NONE goes ahead of -2", -1, z.when(0, 9, -1));
        due("set's clock", 1, z.set(0, 0, 0));
        due("set's number", 9, z.set(0, 0, 1));
        due("set's clock", 0, z.set(0, 1, 0));
        due("set's number", 6, z.set(0, 1, 1));
        due("not so many sets", -2, z.set(0, 2, 0));
        due("not so many sets", -2, z.set(1, 0, 1));
        due("no such set", -1, z.set(0, -1, 0));
        due("no such set", -1, z.set(0, 9, 2));
        due("no such edge's set", -1, z.set(2, 0, 0));
        due("great", 6, z.great(0));
        due("great", 9, z.great(1));
        due("great without", 0, z.great(2));
        due("no such great", -1, z.great(3));
        due("no such great", -1, z.great(-1));
        due("great by a stay", 7, Probe.of("clock x;place a when x <= 7;edge a a when x<3;").great(0));
    }

    // 10
    private static void lay() {
        ClockZones z = Probe.of(TWO);
        PROBE.holds("lay all", z.lay(2, 1));
        bounds("all", z, 2, 0, -1, 1000, 0);
        bounds("all", z, 2, -1, 0, 0, 1);
        bounds("all", z, 2, 0, 1, 1000, 0);
        due("all has", 1, z.has(2, 0, 999, 0, 0));
        PROBE.holds("lay empty", z.lay(2, 2));
        due("empty", 1, z.empty(2));
        due("empty has none", 0, z.has(2, 0, 0, 0, 0));
        PROBE.holds("lay zero", z.lay(2, 0));
        due("zero has 0", 1, z.has(2, 0, 0, 0, 0));
        due("zero has no 1/2", 0, z.has(2, 0, 1, 0, 0));
        due("undos", 3, z.count(6));
        PROBE.holds("no such what", !z.lay(0, 3));
        PROBE.holds("no such what", !z.lay(0, -1));
        PROBE.holds("no such table", !z.lay(4, 0));
        PROBE.holds("no such table", !z.lay(-1, 0));
        due("nothing to undo by those", 3, z.count(6));
    }

    // 11
    private static void meet() {
        ClockZones z = Probe.of(TWO);
        z.lay(0, 1);
        due("meet <", 1, z.meet(0, 0, 1, 0, 3));
        bounds("x - y < 3", z, 0, 0, 1, 3, 0);
        due("meet >=", 1, z.meet(0, 0, -1, 3, 2));
        bounds("x >= 2", z, 0, -1, 0, -2, 1);
        bounds("so y > -1", z, 0, -1, 1, 0, 1);
        due("meet >", 1, z.meet(0, 0, -1, 4, 4));
        bounds("x > 4 so y > 1", z, 0, -1, 1, -1, 0);
        due("meet <=", 1, z.meet(0, 1, -1, 1, 10));
        bounds("y <= 10 so x < 13", z, 0, 0, -1, 13, 0);
        due("meet =", 1, z.meet(0, 1, -1, 2, 5));
        bounds("y = 5", z, 0, 1, -1, 5, 1);
        bounds("y = 5", z, 0, -1, 1, -5, 1);
        due("by ZERO less y", 1, z.meet(0, -1, 1, 1, -5));
        due("to nothing", 0, z.meet(0, 0, -1, 0, 4));
        due("is empty", 1, z.empty(0));
        due("an empty one stays so", 0, z.meet(0, 0, -1, 0, 100));
        due("undos", 9, z.count(6));
        int[][] bad = {{4, 0, 1, 0, 0}, {-1, 0, 1, 0, 0}, {0, 2, 1, 0, 0}, {0, 0, 2, 0, 0}, {0, -2, 1, 0, 0},
            {0, 0, 1, 5, 0}, {0, 0, 1, -1, 0}, {0, 0, 1, 0, 101}, {0, 0, 1, 0, -101}, {0, 1, 1, 0, 0}, {0, -1, -1, 0, 0}};
        for (int[] b : bad) {
            due("bad meet", -1, z.meet(b[0], b[1], b[2], b[3], b[4]));
        }
        due("nothing to undo by those", 9, z.count(6));
        due("touching strictly is nothing", 0, strictTouch(0));
        due("touching is something", 1, strictTouch(1));
        beyond();
    }

    private static int strictTouch(int rel) {
        ClockZones z = Probe.of(TWO);
        z.lay(0, 1);
        z.meet(0, 0, -1, 3, 4);
        return z.meet(0, 0, -1, rel, 4);
    }

    /** Part 4: a bound beyond 400. */
    private static void beyond() {
        ClockZones z = Probe.of("clock a;clock b;clock c;clock d;place p;");
        z.lay(0, 1);
        due("a >= 100", 1, z.meet(0, 0, -1, 3, 100));
        due("b - a >= 100", 1, z.meet(0, 1, 0, 3, 100));
        due("c - b >= 100", 1, z.meet(0, 2, 1, 3, 100));
        due("d - c >= 100", 1, z.meet(0, 3, 2, 3, 100));
        bounds("d >= 400", z, 0, -1, 3, -400, 1);
        due("a set", 1, z.reset(0, 0, 0));
        due("a - d <= -400", -400, z.bound(0, 0, 3, 0));
        due("undos", 6, z.count(6));
        due("up", 1, z.pass(0, 0));
        due("a > 0: d > 400 is no bound beyond", 1, z.meet(0, 0, -1, 4, 0));
        bounds("d > 400", z, 0, -1, 3, -400, 0);
        due("a >= 1: beyond", -2, z.meet(0, 0, -1, 3, 1));
        bounds("nothing happened", z, 0, -1, 3, -400, 0);
        due("nothing to undo", 8, z.count(6));
        due("empty goes ahead", 0, z.meet(0, 3, -1, 0, 100));
        z.undo();
        z.lay(1, 1);
        due("b - a <= 100", 1, z.meet(1, 1, 0, 1, 100));
        due("c - b <= 100", 1, z.meet(1, 2, 1, 1, 100));
        due("d - c <= 100", 1, z.meet(1, 3, 2, 1, 100));
        due("a <= 100", 1, z.meet(1, 0, -1, 1, 100));
        bounds("d <= 400", z, 1, 3, -1, 400, 1);
        ClockZones w = Probe.of("clock a;clock b;clock c;clock d;place p;");
        w.lay(1, 1);
        w.meet(1, 1, 0, 1, 100);
        w.meet(1, 2, 1, 1, 100);
        w.meet(1, 3, 2, 1, 100);
        w.lay(2, 1);
        w.meet(2, 0, 3, 4, -100);
        due("NONE ahead of -2", -1, w.both(1, 4));
        due("both", 1, w.both(1, 2));
        bounds("a - d > -100", w, 1, 3, 0, 100, 0);
        beyondByBoth();
        beyondByStep();
        beyondByBack();
    }

    private static void beyondByBoth() {
        ClockZones w = Probe.of("clock a;clock b;place p;");
        far(w);
        w.copy(1, 0);
        w.lay(0, 1);
        w.meet(0, 0, -1, 3, 1);
        due("both beyond", -2, w.both(0, 1));
        due("both beyond", -2, w.both(1, 0));
        due("they touch all the same", 1, w.touch(0, 1));
        bounds("nothing happened", w, 1, -1, 1, -400, 1);
        w.meet(0, 1, -1, 1, 100);
        due("both empty", 0, w.both(1, 0));
    }

    /** Table 0 becomes: b - a >= 400, both going up. */
    private static void far(ClockZones w) {
        w.lay(0, 0);
        w.pass(0, 0);
        for (int k = 0; k < 4; k++) {
            w.meet(0, 0, -1, 3, 100);
            w.reset(0, 0, 0);
            w.pass(0, 0);
        }
        bounds("far", w, 0, -1, 1, -400, 1);
    }

    private static void beyondByStep() {
        String text = "clock a;clock b;place p;place q when a >= 1;edge p p when a >= 1 set a 0;edge p q;";
        ClockZones w = Probe.of(text);
        far(w);
        int undos = w.count(6);
        due("step beyond", -2, w.step(0, 0));
        due("step beyond", -2, w.step(0, 1));
        due("stay beyond", -2, w.stay(0, 1));
        due("stay", 1, w.stay(0, 0));
        due("undos", Math.min(16, undos + 1), w.count(6));
        bounds("nothing else happened", w, 0, -1, 1, -400, 1);
    }

    private static void beyondByBack() {
        ClockZones w = Probe.of("clock a;clock b;place p;edge p p when a >= 1;edge p p;");
        far(w);
        due("back beyond", -2, w.back(0, 0));
        due("back", 1, w.back(0, 1));
    }

    // 12
    private static void pass() {
        ClockZones z = Probe.of(TWO);
        z.reset(0, 0, 3);
        due("up", 1, z.pass(0, 0));
        bounds("up", z, 0, 0, -1, 1000, 0);
        bounds("up", z, 0, -1, 0, -3, 1);
        bounds("up", z, 0, 0, 1, 3, 1);
        z.meet(0, 1, -1, 0, 5);
        due("down", 1, z.pass(0, 1));
        bounds("down", z, 0, -1, 0, -3, 1);
        bounds("down", z, 0, 0, -1, 8, 0);
        bounds("down", z, 0, -1, 1, 0, 1);
        z.lay(1, 1);
        z.meet(1, 0, -1, 4, 2);
        due("down", 1, z.pass(1, 1));
        bounds("x > 2 gone", z, 1, -1, 0, 0, 1);
        z.lay(1, 2);
        due("up of nothing", 0, z.pass(1, 0));
        due("down of nothing", 0, z.pass(1, 1));
        due("no such what", -1, z.pass(0, 2));
        due("no such what", -1, z.pass(0, -1));
        due("no such table", -1, z.pass(4, 0));
    }

    // 13, 14
    private static void resetFree() {
        ClockZones z = Probe.of(TWO);
        z.pass(0, 0);
        z.meet(0, 0, -1, 0, 4);
        due("reset", 1, z.reset(0, 1, 50));
        bounds("x", z, 0, 0, -1, 4, 0);
        bounds("y", z, 0, 1, -1, 50, 1);
        bounds("x - y", z, 0, 0, 1, -46, 0);
        bounds("y - x", z, 0, 1, 0, 50, 1);
        due("reset beyond", -1, z.reset(0, 1, 51));
        due("reset below", -1, z.reset(0, 1, -1));
        due("reset no clock", -1, z.reset(0, -1, 1));
        due("reset no clock", -1, z.reset(0, 2, 1));
        due("reset no table", -1, z.reset(-1, 0, 1));
        due("free", 1, z.free(0, 1));
        bounds("y", z, 0, 1, -1, 1000, 0);
        bounds("y", z, 0, -1, 1, 0, 1);
        bounds("x - y", z, 0, 0, 1, 4, 0);
        bounds("y - x", z, 0, 1, 0, 1000, 0);
        due("free no clock", -1, z.free(0, -1));
        due("free no clock", -1, z.free(0, 2));
        due("free no table", -1, z.free(4, 0));
        z.lay(0, 2);
        due("reset nothing", 0, z.reset(0, 0, 0));
        due("free nothing", 0, z.free(0, 0));
        due("still nothing", 1, z.empty(0));
    }

    // 15, 16, 17
    private static void copyJoinBoth() {
        ClockZones z = Probe.of(TWO);
        z.reset(1, 0, 4);
        due("copy", 1, z.copy(0, 1));
        due("copied", 1, z.has(0, 8, 0, 0, 0));
        due("copy of itself", 1, z.copy(0, 0));
        due("undos", 3, z.count(6));
        due("join", 1, z.join(0, 2));
        bounds("joined x", z, 0, 0, -1, 4, 1);
        bounds("joined x", z, 0, -1, 0, 0, 1);
        due("joined has the middle", 1, z.has(0, 3, 0, 0, 0));
        due("join with itself", 1, z.join(0, 0));
        z.lay(3, 2);
        due("join with nothing", 1, z.join(0, 3));
        bounds("as it was", z, 0, 0, -1, 4, 1);
        due("nothing joined", 1, z.join(3, 0));
        bounds("as the other", z, 3, 0, -1, 4, 1);
        due("both", 1, z.both(3, 1));
        bounds("both", z, 3, -1, 0, -4, 1);
        due("both of none in common", 0, z.both(3, 2));
        due("copy of nothing", 0, z.copy(0, 3));
        due("nothing and nothing", 0, z.join(0, 3));
        due("both with nothing", 0, z.both(1, 3));
        due("bad copy", -1, z.copy(4, 0));
        due("bad copy", -1, z.copy(0, -1));
        due("bad join", -1, z.join(4, 0));
        due("bad join", -1, z.join(0, 4));
        due("bad both", -1, z.both(-1, 0));
        due("bad both", -1, z.both(0, 4));
        z.lay(0, 1);
        z.meet(0, 0, 1, 1, 2);
        z.lay(1, 1);
        z.meet(1, 1, -1, 0, 3);
        z.both(0, 1);
        bounds("both is closed", z, 0, 0, -1, 5, 0);
    }

    // 18, 19
    private static void stepStay() {
        ClockZones z = Probe.of("clock x;clock y;place a when x<=5;place b when y<3 when x>=1;edge a b when x>=2 set y 1;edge b b set x 0;");
        due("stay", 1, z.stay(0, 0));
        bounds("stay", z, 0, 0, -1, 5, 1);
        due("step", 1, z.step(0, 0));
        bounds("y", z, 0, 1, -1, 3, 0);
        bounds("y", z, 0, -1, 1, -1, 1);
        bounds("x", z, 0, 0, -1, 7, 0);
        bounds("x", z, 0, -1, 0, -2, 1);
        bounds("x - y", z, 0, 0, 1, 4, 1);
        bounds("y - x", z, 0, 1, 0, -1, 1);
        due("step against its stay", 0, z.step(0, 1));
        due("step of nothing", 0, z.step(0, 0));
        due("stay of nothing", 0, z.stay(0, 0));
        due("whens don't hold", 0, z.step(1, 0));
        due("stay at once", 0, z.stay(2, 1));
        // An edge may be taken whichever place: of a's stay nothing is asked here.
        z.lay(3, 1);
        z.meet(3, 0, -1, 2, 40);
        due("step from beyond the stay", 1, z.step(3, 0));
        bounds("x", z, 3, -1, 0, -40, 1);
        bounds("x", z, 3, 0, -1, 42, 0);
        due("bad step", -1, z.step(4, 0));
        due("bad step", -1, z.step(0, 2));
        due("bad step", -1, z.step(0, -1));
        due("bad stay", -1, z.stay(0, 2));
        due("bad stay", -1, z.stay(0, -1));
        due("bad stay", -1, z.stay(-1, 0));
    }

    // 20
    private static void rough() {
        ClockZones z = Probe.of("clock x;clock y;place a when x<=5;edge a a when y>2 set y 3;");
        z.lay(0, 1);
        z.meet(0, 0, -1, 2, 7);
        z.meet(0, 1, -1, 1, 3);
        due("rough", 1, z.rough(0));
        bounds("x = 7 above 5", z, 0, 0, -1, 1000, 0);
        bounds("x > 5", z, 0, -1, 0, -5, 0);
        bounds("y stays", z, 0, 1, -1, 3, 1);
        bounds("y - x isn't below -5", z, 0, 1, 0, -4, 1);
        bounds("x - y is above 5", z, 0, 0, 1, 1000, 0);
        z.meet(0, 0, -1, 3, 20);
        z.meet(0, 1, -1, 1, 0);
        z.rough(0);
        bounds("y - x is below -5", z, 0, 1, 0, -5, 0);
        z.lay(1, 1);
        z.meet(1, 0, -1, 2, 5);
        z.meet(1, 1, -1, 4, 3);
        due("rough", 1, z.rough(1));
        bounds("5 isn't above", z, 1, 0, -1, 5, 1);
        bounds("-5 isn't below", z, 1, -1, 0, -5, 1);
        bounds("-3 isn't below", z, 1, -1, 1, -3, 0);
        z.lay(1, 2);
        due("rough of nothing", 0, z.rough(1));
        due("bad rough", -1, z.rough(4));
        due("bad rough", -1, z.rough(-1));
        ClockZones w = Probe.of(TWO);
        w.reset(0, 0, 2);
        w.rough(0);
        bounds("without great", w, 0, -1, 0, 0, 0);
        bounds("without great", w, 0, 0, -1, 1000, 0);
        bounds("without great", w, 0, 1, 0, 0, 0);
        bounds("without great", w, 0, 1, -1, 0, 1);
    }

    // 21
    private static void take() {
        ClockZones z = Probe.of(MAIN);
        for (int k = 0; k < 4; k++) {
            due("take", 1, z.take(k, k));
            for (int x = -1; x < 2; x++) {
                for (int y = -1; y < 2; y++) {
                    due("as the node", z.nodeBound(k, x, y, 0), z.bound(k, x, y, 0));
                    due("as the node", z.nodeBound(k, x, y, 1), z.bound(k, x, y, 1));
                }
            }
        }
        due("bad take", -1, z.take(0, 4));
        due("bad take", -1, z.take(0, -1));
        due("bad take", -1, z.take(4, 0));
        z.pass(1, 0);
        due("the node is as it was", 3, z.nodeBound(1, 1, -1, 0));
    }

    // 22
    private static void undo() {
        ClockZones z = Probe.of(MAIN);
        due("none", -1, z.undo());
        for (int n = 0; n <= 20; n++) {
            z.reset(0, 0, n);
        }
        due("16 at most", 16, z.count(6));
        for (int left = 15; left >= 0; left--) {
            due("undo", left, z.undo());
            due("as it was", left + 4, z.first(0, 0));
        }
        due("the eldest are forgotten", -1, z.undo());
        due("which stays", 4, z.first(0, 0));
        z.add(0);
        z.reset(1, 1, 7);
        z.lead(-1);
        z.add(0);
        due("undo add", 3, z.undo());
        due("trace", 0, z.trace(-1));
        due("undo lead", 2, z.undo());
        due("trace", 1, z.trace(-1));
        due("trace", 0, z.trace(0));
        due("table", 7, z.first(1, 1));
        due("undo reset", 1, z.undo());
        due("table", 0, z.first(1, 1));
        due("undo add", 0, z.undo());
        due("trace", 0, z.trace(-1));
        z.lay(0, 0);
        z.lay(0, 0);
        due("also where it is as it was", 2, z.count(6));
        z.lead(-1);
        due("also the trace", 3, z.count(6));
        z.add(2);
        z.lead(7);
        z.meet(0, 0, 0, 0, 0);
        due("not what didn't happen", 3, z.count(6));
        windowsBehindUndo();
    }

    private static void windowsBehindUndo() {
        ClockZones z = Probe.of(MAIN);
        z.add(0);
        window("one edge", z, 0, 2, 1, 5, 1);
        z.add(2);
        window("two edges", z, 0, 2, 1, 4, 1);
        z.undo();
        window("one edge again", z, 0, 2, 1, 5, 1);
        z.lead(2);
        window("by the way", z, 0, 2, 1, 4, 1);
        z.undo();
        window("one edge once more", z, 0, 2, 1, 5, 1);
    }

    // 23, 45
    private static void boundWidth() {
        ClockZones z = Probe.of(TWO);
        z.lay(0, 1);
        z.meet(0, 0, 1, 0, 5);
        z.meet(0, 0, 1, 3, -2);
        bounds("x - y", z, 0, 0, 1, 5, 0);
        bounds("y - x", z, 0, 1, 0, 2, 1);
        due("width", 7, z.width(0, 0, 1, 0));
        due("width is not reached", 0, z.width(0, 0, 1, 1));
        due("width", 7, z.width(0, 1, 0, 0));
        due("width without", 1000, z.width(0, 0, -1, 0));
        due("width without", 0, z.width(0, -1, 0, 1));
        z.meet(0, 0, 1, 2, -2);
        due("width 0", 0, z.width(0, 0, 1, 0));
        due("width 0", 1, z.width(0, 0, 1, 1));
        z.lay(1, 2);
        due("bound of nothing", -1000, z.bound(1, 0, 1, 0));
        due("bound of nothing", -1000, z.bound(1, 0, 1, 1));
        due("width of nothing", -1000, z.width(1, 0, -1, 1));
        int[][] bad = {{4, 0, 1, 0}, {-1, 0, 1, 0}, {0, 2, 1, 0}, {0, 0, 2, 1}, {0, -2, 0, 0}, {0, 0, 1, 2},
            {0, 0, 1, -1}, {0, 0, 0, 0}, {0, -1, -1, 0}, {1, 0, 0, 0}, {1, 0, 1, 2}};
        for (int[] b : bad) {
            due("bad bound", -2000, z.bound(b[0], b[1], b[2], b[3]));
            due("bad width", -2000, z.width(b[0], b[1], b[2], b[3]));
        }
    }

    // 24, 25, 46, 55
    private static void emptyWithinTouchSingle() {
        ClockZones z = Probe.of(TWO);
        z.lay(1, 1);
        z.lay(2, 2);
        due("empty", 0, z.empty(0));
        due("empty", 1, z.empty(2));
        due("bad empty", -1, z.empty(4));
        due("bad empty", -1, z.empty(-1));
        int[][] within = {{1, 0, 1}, {1, 1, 1}, {0, 0, 1}};
        int[][] touch = {{1, 1, 0}, {1, 1, 0}, {0, 0, 0}};
        for (int t = 0; t < 3; t++) {
            for (int of = 0; of < 3; of++) {
                due("within " + t + " " + of, within[t][of], z.within(t, of));
                due("touch " + t + " " + of, touch[t][of], z.touch(t, of));
            }
        }
        z.lay(3, 1);
        z.meet(3, 0, 1, 4, 0);
        due("x > y doesn't touch 0", 0, z.touch(3, 0));
        z.meet(1, 0, -1, 0, 3);
        due("neither", 0, z.within(1, 3));
        due("neither", 0, z.within(3, 1));
        due("but in common", 1, z.touch(1, 3));
        due("asked changes nothing", 5, z.count(6));
        due("bad within", -1, z.within(0, 4));
        due("bad within", -1, z.within(-1, 0));
        due("bad touch", -1, z.touch(0, -1));
        due("bad touch", -1, z.touch(4, 0));
        due("single of all 0", 3, z.single(0));
        due("single of nothing", -2, z.single(2));
        z.reset(1, 1, 9);
        due("single y", 2, z.single(1));
        due("bad single", -1, z.single(4));
        due("bad single", -1, z.single(-1));
    }

    // 26
    private static void has() {
        ClockZones z = Probe.of(TWO);
        z.lay(0, 1);
        z.meet(0, 0, 1, 0, 2);
        z.meet(0, 1, -1, 1, 3);
        due("x - y = 3/2", 1, z.has(0, 3, 0, 0, 0));
        due("x - y = 2", 0, z.has(0, 4, 0, 0, 0));
        due("y = 3", 1, z.has(0, 6, 6, 99, MOST));
        due("y = 7/2", 0, z.has(0, 7, 7, 0, 0));
        due("y - x", 1, z.has(0, 0, 6, 0, 0));
        due("far", 0, z.has(0, MOST, 0, 0, 0));
        z.lay(0, 1);
        due("far", 1, z.has(0, MOST, 0, 0, 0));
        z.meet(0, 0, -1, 4, 1);
        due("x > 1", 0, z.has(0, 2, 0, 0, 0));
        due("x > 1", 1, z.has(0, 3, 0, 0, 0));
        due("below 0", -1, z.has(0, -1, 0, 0, 0));
        due("below 0", -1, z.has(0, 0, -1, 0, 0));
        due("below 0", -1, z.has(0, 0, 0, -1, 0));
        due("below 0", -1, z.has(0, 0, 0, 0, LEAST));
        due("no such table", -1, z.has(4, 0, 0, 0, 0));
        ClockZones w = Probe.of("clock a;clock b;clock c;clock d;place p;");
        due("of four", 0, w.has(0, 0, 0, 1, 0));
        due("of four", 0, w.has(0, 0, 0, 0, 1));
        w.reset(0, 2, 3);
        w.reset(0, 3, 4);
        due("of four", 1, w.has(0, 0, 0, 6, 8));
        due("of four", 0, w.has(0, 0, 0, 8, 6));
        z.lay(0, 2);
        due("nothing", 0, z.has(0, 3, 0, 0, 0));
        due("NONE ahead of it", -1, z.has(0, -3, 0, 0, 0));
    }

    // 27
    private static void pairs() {
        ClockZones z = Probe.of(TWO);
        due("all 0: bounds", 6, z.pairs(0, 0));
        due("all 0: reached", 6, z.pairs(0, 1));
        due("all 0: alone", 0, z.pairs(0, 2));
        z.lay(1, 1);
        due("all: bounds", 2, z.pairs(1, 0));
        due("all: alone", 2, z.pairs(1, 2));
        z.meet(1, 0, -1, 0, 4);
        due("x < 4: bounds", 4, z.pairs(1, 0));
        due("x < 4: reached", 2, z.pairs(1, 1));
        due("x < 4: alone, x - y isn't", 3, z.pairs(1, 2));
        z.meet(1, 0, 1, 1, 2);
        due("x - y <= 2: alone", 4, z.pairs(1, 2));
        z.lay(1, 2);
        due("nothing", -2, z.pairs(1, 0));
        due("NONE ahead of -2", -1, z.pairs(1, 3));
        due("bad pairs", -1, z.pairs(0, -1));
        due("bad pairs", -1, z.pairs(4, 0));
        ClockZones w = Probe.of("clock x;place a;");
        due("one clock: alone", 2, w.pairs(0, 2));
    }

    // 28, 29
    private static void wholeFirst() {
        ClockZones z = Probe.of(TWO);
        z.lay(0, 1);
        due("all 0 .. 9", 100, z.whole(0, 9));
        due("all 0", 1, z.whole(0, 0));
        z.meet(0, 0, 1, 0, 0);
        due("x < y", 45, z.whole(0, 9));
        due("x < y", 0, z.whole(0, 0));
        due("first x", 0, z.first(0, 0));
        due("first y", 1, z.first(0, 1));
        z.meet(0, 0, -1, 4, 2);
        due("first x", 3, z.first(0, 0));
        due("first y", 4, z.first(0, 1));
        z.meet(0, 1, -1, 0, 4);
        due("no whole one", 0, z.whole(0, 9));
        due("no whole one", -2, z.first(0, 0));
        due("but not empty", 0, z.empty(0));
        z.lay(0, 1);
        z.meet(0, 0, -1, 2, 100);
        due("up to 100", 100, z.first(0, 0));
        due("the other", 0, z.first(0, 1));
        z.meet(0, 1, 0, 4, 0);
        due("beyond 100", -2, z.first(0, 0));
        z.lay(0, 2);
        due("nothing", 0, z.whole(0, 9));
        due("nothing", -2, z.first(0, 1));
        due("bad whole", -1, z.whole(0, 10));
        due("bad whole", -1, z.whole(0, -1));
        due("bad whole", -1, z.whole(4, 1));
        due("bad first", -1, z.first(0, 2));
        due("bad first", -1, z.first(0, -1));
        due("bad first", -1, z.first(4, 0));
        ClockZones w = Probe.of("clock a;clock b;clock c;clock d;place p;");
        w.lay(0, 1);
        due("four clocks", 10000, w.whole(0, 9));
        w.meet(0, 0, 3, 0, 0);
        due("a < d", 4500, w.whole(0, 9));
        w.lay(0, 2);
        due("nothing", 0, w.whole(0, 3));
    }

    // 30, 31, 32
    private static void nodes() {
        ClockZones z = Probe.of(MAIN);
        due("nodes", 4, z.nodes());
        int[][] want = {{0, -2, -2, 0}, {1, 0, 0, 1}, {0, 1, 1, 2}, {2, 1, 2, 2}};
        for (int k = 0; k < 4; k++) {
            for (int what = 0; what < 4; what++) {
                due("node " + k + " " + what, want[k][what], z.node(k, what));
            }
        }
        due("no such node", -3, z.node(4, 0));
        due("no such node", -3, z.node(-1, 3));
        due("no such what", -1, z.node(0, 4));
        due("no such what", -1, z.node(9, -1));
        due("node's bound", -2000, z.nodeBound(4, 0, 1, 0));
        due("node's bound", -2000, z.nodeBound(-1, 0, 1, 0));
        due("node's bound", -2000, z.nodeBound(0, 1, 1, 0));
        due("node's bound", -2000, z.nodeBound(0, 2, 1, 0));
        due("node's bound", -2000, z.nodeBound(0, 0, 1, 2));
        due("c's x isn't bounded", 1000, z.nodeBound(3, 0, -1, 0));
        due("c's x isn't bounded", 0, z.nodeBound(3, 0, -1, 1));
        ClockZones w = Probe.of("clock x;place a when x > 0;place b;edge a b;");
        due("no nodes", 0, w.nodes());
        due("no nodes", 0, w.reached());
        due("no nodes", -2, w.stuck());
        due("no nodes", -2, w.deepest(0));
        due("no nodes", -2, w.lead(0));
        due("no nodes", -2, w.fastest(0, 0));
        due("no nodes", -2, w.place(0, 3));
        due("no nodes", -1, w.open(0));
        due("it can't be", 0, w.can());
        due("without an edge", -3, w.breaks());
        w.add(0);
        due("at its first edge", 0, w.breaks());
        due("no node is made of what one has", 1, Probe.of("clock x;place a;edge a a when x>3 set x 0;").nodes());
    }

    /** Time stands still, so that each pair of numbers set is a node of its own: 64 of them. */
    private static String many() {
        StringBuilder text = new StringBuilder("clock x;clock y;clock z;place a when z<=0;place b;");
        for (int n = 1; n < 8; n++) {
            text.append("edge a a set x ").append(n).append(";edge a a set y ").append(n).append(";");
        }
        return text.append("edge a b when x=7 when y=7;edge a b when x=2 when y=0;").toString();
    }

    private static void sixty() {
        ClockZones z = Probe.of(many());
        due("60 at most", 60, z.nodes());
        int[][] seen = new int[60][];
        int many = 1;
        seen[0] = new int[] {0, 0, 0, -2, -2};
        for (int k = 0; k < many; k++) {
            for (int e = 0; e < 16 && many < 60; e++) {
                int[] now = afterEdge(seen[k], e, k);
                boolean isNew = now != null;
                for (int i = 0; i < many && isNew; i++) {
                    isNew = seen[i][0] != now[0] || (now[0] == 0 && (seen[i][1] != now[1] || seen[i][2] != now[2]));
                }
                if (isNew) {
                    seen[many] = now;
                    many++;
                }
            }
        }
        for (int k = 0; k < 60; k++) {
            due("place of " + k, seen[k][0], z.node(k, 0));
            due("parent of " + k, seen[k][3], z.node(k, 1));
            due("edge of " + k, seen[k][4], z.node(k, 2));
        }
        due("none beyond", -3, z.node(60, 0));
        due("take the last", 1, z.take(0, 59));
        due("no node by it, as no more came", 0, z.edge(14, 4));
        due("a node by it", 1, z.edge(15, 4));
        due("open of the last", 16383, z.open(59) & 16383);
        longWay();
    }

    /** A point of many(): place, x, y, parent, edge. */
    private static int[] afterEdge(int[] at, int e, int k) {
        if (at[0] == 1) {
            return null;
        }
        if (e < 14) {
            int n = e / 2 + 1;
            return new int[] {0, e % 2 == 0 ? n : at[1], e % 2 == 1 ? n : at[2], k, e};
        }
        boolean taken = e == 14 ? at[1] == 7 && at[2] == 7 : at[1] == 2 && at[2] == 0;
        return taken ? new int[] {1, at[1], at[2], k, e} : null;
    }

    /** A way of more than 20 edges: one place counts by going round until another opens. */
    private static void longWay() {
        ClockZones z = Probe.of("clock x;clock y;place a when x<=1;place b;"
                + "edge a a when x=1 set x 0;edge a b when y>=40 when x<1;");
        due("nodes of a long way", 44, z.nodes());
        due("way", 41, z.way(1, -1));
        due("way's last", 1, z.way(1, 40));
        due("way's other", 0, z.way(1, 39));
        due("not so many", -2, z.way(1, 41));
        due("deepest", 1, z.deepest(0));
        due("deepest", 41, z.deepest(1));
        due("its first 20", 20, z.lead(1));
        due("trace", 0, z.trace(19));
        due("trace", -2, z.trace(20));
        due("full", -3, z.add(0));
        due("full, and not from there", -1, z.add(2));
        due("fastest, whatever its length", 40, z.fastest(1, 0));
        due("fastest", 1, z.fastest(1, 1));
        window("the 20th", z, 19, 20, 1, 20, 1);
        due("at most 20", 20, z.trace(-1));
    }

    // 33
    private static void way() {
        ClockZones z = Probe.of(MAIN + "place d;");
        due("way to c", 2, z.way(2, -1));
        due("way to c", 0, z.way(2, 0));
        due("way to c", 2, z.way(2, 1));
        due("not so many", -2, z.way(2, 2));
        due("not so many", -2, z.way(2, MOST));
        due("way to start", 0, z.way(0, -1));
        due("way to start", -2, z.way(0, 0));
        due("not reached", -2, z.way(3, -1));
        due("not reached", -2, z.way(3, 0));
        due("bad way", -1, z.way(3, -2));
        due("bad way", -1, z.way(4, 0));
        due("bad way", -1, z.way(-1, 0));
    }

    // 34, 35, 36
    private static void openStuckReached() {
        ClockZones z = Probe.of(MAIN + "place d;edge c c when x<1;");
        due("open", 1, z.open(0));
        due("open", 6, z.open(1));
        due("open again", 6, z.open(1));
        due("open", 0, z.open(3));
        due("bad open", -1, z.open(4));
        due("bad open", -1, z.open(-1));
        due("stuck", 3, z.stuck());
        due("reached", 7, z.reached());
        ClockZones w = Probe.of("place a;place b;edge a a;edge a b;edge b a;");
        due("open", 3, w.open(0));
        due("never stuck", -2, w.stuck());
        due("reached", 3, w.reached());
        // Another text begins anew.
        Probe.tell(w, "place a;edge a a;");
        due("open of another text", 1, w.open(0));
    }

    // 37, 38, 39
    private static void addLeadTrace() {
        ClockZones z = Probe.of(MAIN + "place d;edge d d;");
        due("not there", -2, z.add(1));
        due("add", 1, z.add(0));
        due("not there", -2, z.add(0));
        due("add", 2, z.add(1));
        due("bad add", -1, z.add(4));
        due("bad add", -1, z.add(-1));
        due("trace", 2, z.trace(-1));
        due("trace", 0, z.trace(0));
        due("trace", 1, z.trace(1));
        due("not so many", -2, z.trace(2));
        due("bad trace", -1, z.trace(-2));
        due("bad trace", -1, z.trace(LEAST));
        due("lead", 2, z.lead(2));
        due("lead's edge", 2, z.trace(1));
        due("not reached", -2, z.lead(3));
        due("bad lead", -1, z.lead(4));
        due("bad lead", -1, z.lead(-2));
        due("stays", 2, z.count(5));
        due("to the start", 0, z.lead(0));
        due("to nowhere", 0, z.lead(-1));
        ClockZones w = Probe.of("place a;place b;edge a a;edge b b;");
        for (int k = 1; k <= 20; k++) {
            due("add", k, w.add(0));
        }
        due("it has 20", -3, w.add(0));
        due("-2 ahead of -3", -2, w.add(1));
        ClockZones v = Probe.of("place a;place b;edge a b;edge b a;start b;");
        due("from START", -2, v.add(0));
        due("from START", 1, v.add(1));
    }

    // 40, 44
    private static void canBreaks() {
        ClockZones z = Probe.of(MAIN);
        due("empty trace", 1, z.can());
        due("empty trace", -2, z.breaks());
        z.add(0);
        z.add(1);
        z.add(0);
        due("can", 1, z.can());
        due("breaks", -2, z.breaks());
        ClockZones w = Probe.of("clock x;place a;place b when x<3;edge a a when x<=2;edge a b when x>=2;edge b a when x>3;");
        w.add(0);
        w.add(1);
        due("can", 1, w.can());
        w.add(2);
        due("can't", 0, w.can());
        due("breaks at the third", 2, w.breaks());
        w.add(0);
        due("still at the third", 2, w.breaks());
        due("window of what can't be", -3, w.window(0, 0));
        due("not so many ahead of it", -2, w.window(4, 0));
        ClockZones v = Probe.of("clock x;place a;place b when x<=3;edge a b when x>3;edge a b when x>3 set x 3;edge a b when x<2 set x 4;");
        v.add(0);
        due("stay as one comes", 0, v.can());
        due("stay as one comes", 0, v.breaks());
        v.undo();
        v.add(1);
        due("behind the sets", 1, v.can());
        v.undo();
        v.add(2);
        due("behind the sets", 0, v.can());
        due("no places", -1, new ClockZones().can());
        due("no places", -1, new ClockZones().breaks());
    }

    // 41, 42, 43
    private static void windowBetweenValue() {
        ClockZones z = Probe.of(MAIN);
        z.add(0);
        z.add(2);
        window("first", z, 0, 2, 1, 4, 1);
        window("second", z, 1, 4, 1, 4, 1);
        int[] between = {0, 1, 2, 1};
        int[] xAtSecond = {4, 1, 4, 1};
        for (int what = 0; what < 4; what++) {
            due("between", between[what], z.between(0, 1, what));
            due("y at the second", between[what], z.value(1, 1, what));
            due("x at the second", xAtSecond[what], z.value(1, 0, what));
            due("y at the first, ahead of its set", z.window(0, what), z.value(0, 1, what));
        }
        z.lead(-1);
        z.add(0);
        z.add(1);
        z.add(0);
        window("third", z, 2, 5, 0, 13, 0);
        due("from second to third", 2, z.between(1, 2, 0));
        due("from second to third", 5, z.between(1, 2, 2));
        due("from first to second", 1, z.between(0, 1, 0));
        due("not reached", 0, z.between(0, 1, 1));
        due("from first to second", 3, z.between(0, 1, 2));
        due("not reached", 0, z.between(0, 1, 3));
        due("y at the third", 3, z.value(2, 1, 0));
        due("y at the third", 0, z.value(2, 1, 1));
        due("y at the third", 8, z.value(2, 1, 2));
        due("bad window", -1, z.window(-1, 0));
        due("bad window", -1, z.window(0, 4));
        due("bad window", -1, z.window(9, -1));
        due("not so many", -2, z.window(3, 0));
        due("bad between", -1, z.between(0, 0, 0));
        due("bad between", -1, z.between(1, 0, 0));
        due("bad between", -1, z.between(-1, 1, 0));
        due("bad between", -1, z.between(0, 1, 4));
        due("bad between", -1, z.between(9, 9, 0));
        due("not so many", -2, z.between(0, 3, 0));
        due("not so many", -2, z.between(7, MOST, 0));
        due("bad value", -1, z.value(0, 2, 0));
        due("bad value", -1, z.value(0, -1, 0));
        due("bad value", -1, z.value(-1, 0, 0));
        due("bad value", -1, z.value(0, 0, 4));
        due("not so many", -2, z.value(3, 0, 0));
        ClockZones w = Probe.of("clock x;place a;edge a a when x>3 set x 2;edge a a when x<2;");
        w.add(0);
        window("without end", w, 0, 3, 0, 10000, 0);
        w.add(0);
        due("set to 2", 3, w.value(1, 0, 0));
        due("set to 2", 0, w.value(1, 0, 1));
        due("without end", 10000, w.value(1, 0, 2));
        due("without end", 0, w.value(1, 0, 3));
        due("between", 1, w.between(0, 1, 0));
        due("between", 10000, w.between(0, 1, 2));
        w.add(1);
        due("can't be", -3, w.window(0, 0));
        due("can't be", -3, w.between(0, 1, 0));
        due("can't be", -3, w.value(0, 0, 0));
        due("can't be", -3, w.moment(0));
        due("NONE first", -1, w.between(1, 1, 0));
    }

    // 47
    private static void back() {
        ClockZones z = Probe.of("clock x;clock y;place a when x<=9;place b when y<=3;edge a b when x>=2 set y 1;edge a b set y 4;edge a b set y 2 set x 0;");
        z.lay(0, 1);
        z.meet(0, 0, 1, 1, 4);
        due("back", 1, z.back(0, 0));
        bounds("x - 1 <= 4", z, 0, 0, -1, 5, 1);
        bounds("x >= 2", z, 0, -1, 0, -2, 1);
        bounds("y is anything", z, 0, 1, -1, 1000, 0);
        bounds("y is anything", z, 0, -1, 1, 0, 1);
        z.lay(0, 1);
        due("b's stay behind the set", 0, z.back(0, 1));
        due("back of nothing", 0, z.back(0, 0));
        z.lay(0, 1);
        z.meet(0, 0, 1, 2, -2);
        due("two sets", 1, z.back(0, 2));
        due("from anything", 1, z.has(0, 99, 0, 0, 0));
        z.lay(0, 1);
        z.meet(0, 0, 1, 2, -1);
        due("never so", 0, z.back(0, 2));
        due("bad back", -1, z.back(4, 0));
        due("bad back", -1, z.back(0, 3));
        due("bad back", -1, z.back(0, -1));
        due("undos", 12, z.count(6));
    }

    // 48, 49
    private static void longestSoonest() {
        ClockZones z = Probe.of("clock x;clock y;place a when x<=5 when y<4;place b;edge a b when x>=3 when y>1;edge b a when x<2;edge a a when x>5;");
        due("longest from 0", 4, z.longest(0, 0, 0));
        due("longest from 0", 0, z.longest(0, 0, 1));
        due("without end", 1000, z.longest(0, 1, 0));
        due("without end", 0, z.longest(0, 1, 1));
        due("soonest from 0", 3, z.soonest(0, 0, 0));
        due("soonest from 0", 1, z.soonest(0, 0, 1));
        z.reset(0, 0, 3);
        due("longest by x", 2, z.longest(0, 0, 0));
        due("longest by x", 1, z.longest(0, 0, 1));
        due("soonest by y", 1, z.soonest(0, 0, 0));
        due("soonest by y", 0, z.soonest(0, 0, 1));
        due("never", -1000, z.soonest(0, 1, 0));
        due("never by its stay", -1000, z.soonest(0, 2, 1));
        z.reset(0, 0, 6);
        due("none keep it", -1000, z.longest(0, 0, 0));
        due("none keep it", -1000, z.soonest(0, 0, 0));
        z.lay(1, 2);
        due("nothing", -1000, z.longest(1, 1, 0));
        due("nothing", -1000, z.soonest(1, 0, 0));
        z.lay(1, 1);
        z.meet(1, 0, -1, 4, 1);
        z.meet(1, 1, -1, 3, 2);
        due("longest of several", 2, z.longest(1, 0, 0));
        due("not reached", 0, z.longest(1, 0, 1));
        due("soonest of several", 0, z.soonest(1, 0, 0));
        due("reached", 1, z.soonest(1, 0, 1));
        due("bad longest", -2000, z.longest(4, 0, 0));
        due("bad longest", -2000, z.longest(0, 2, 0));
        due("bad longest", -2000, z.longest(0, 0, 2));
        due("bad soonest", -2000, z.soonest(-1, 0, 0));
        due("bad soonest", -2000, z.soonest(0, 3, 0));
        due("bad soonest", -2000, z.soonest(0, 0, -1));
    }

    // 50, 51
    private static void leadsFastest() {
        ClockZones z = Probe.of(MAIN + "place d;edge c d when x>9 when x<9;");
        due("leads", 15, z.leads(0));
        due("leads", 12, z.leads(2));
        due("leads to itself", 8, z.leads(3));
        due("bad leads", -1, z.leads(4));
        due("bad leads", -1, z.leads(-1));
        due("fastest", 4, z.fastest(2, 0));
        due("fastest", 1, z.fastest(2, 1));
        due("fastest at once", 0, z.fastest(0, 0));
        due("fastest at once", 1, z.fastest(0, 1));
        due("not reached", -2, z.fastest(3, 0));
        due("bad fastest", -1, z.fastest(3, 2));
        due("bad fastest", -1, z.fastest(0, -1));
        due("bad fastest", -1, z.fastest(4, 0));
        ClockZones w = Probe.of("clock x;place a;place b;place c;edge a b when x>2 set x 0;edge b c when x>=3;");
        due("not reached", 5, w.fastest(2, 0));
        due("not reached", 0, w.fastest(2, 1));
        ClockZones chain = Probe.of("place a;place b;place c;place d;edge d c;edge c b;edge b a;start d;");
        due("a chain backwards", 15, chain.leads(3));
        due("a chain backwards", 3, chain.leads(1));
    }

    // 52
    private static void moment() {
        ClockZones z = Probe.of("clock x;clock y;place a;place b;edge a b when x>1 set y 0;edge b a when y>0 when x<3;edge b a when y>0 when x<4;");
        z.add(0);
        due("moment", 2, z.moment(0));
        z.add(1);
        due("can be", 1, z.can());
        due("no whole times", -4, z.moment(0));
        due("not so many", -2, z.moment(2));
        due("bad moment", -1, z.moment(-1));
        z.undo();
        z.add(2);
        due("moment", 2, z.moment(0));
        due("moment", 3, z.moment(1));
        ClockZones w = Probe.of("clock x;clock y;place a;edge a a set x 0;edge a a when x<=1 when y>=5;");
        w.add(0);
        w.add(1);
        due("the first as late as the second asks", 4, w.moment(0));
        due("the second", 5, w.moment(1));
    }

    // 53, 54, 56
    private static void deepestTellsCount() {
        ClockZones z = Probe.of("clock x;clock y;place a when y<9;place b;place c when x<9 when y<9;edge a b when x<=3;edge a c when y<1 set x 0 set y 1;"
                + "edge c b when x>4 when y>4;start a;");
        due("deepest", 1, z.deepest(0));
        due("deepest", 1, z.deepest(1));
        due("bad deepest", -1, z.deepest(2));
        due("bad deepest", -1, z.deepest(-1));
        due("only the start", 0, Probe.of("place a;").deepest(0));
        due("tells", 5, z.tells(0, 0));
        due("tells", 6, z.tells(1, 0));
        due("tells", 2, z.tells(0, 1));
        due("tells", 2, z.tells(1, 1));
        due("tells", 4, z.tells(0, 2));
        due("tells", 5, z.tells(1, 2));
        due("bad tells", -1, z.tells(2, 0));
        due("bad tells", -1, z.tells(-1, 0));
        due("bad tells", -1, z.tells(0, 3));
        due("bad tells", -1, z.tells(0, -1));
        z.add(0);
        z.lay(0, 0);
        z.feed(0, 0, 0, 0, 0);
        int[] want = {9, 2, 3, 3, 0, 1, 2, 20};
        for (int what = 0; what < 8; what++) {
            due("count " + what, want[what], z.count(what));
        }
        due("bad count", -1, z.count(8));
        due("bad count", -1, z.count(-1));
    }

    public static void main(String[] args) {
        newObject();
        feed();
        text();
        textsAnew();
        fullText();
        fault();
        place();
        edge();
        whenSetGreat();
        lay();
        meet();
        pass();
        resetFree();
        copyJoinBoth();
        stepStay();
        rough();
        take();
        undo();
        boundWidth();
        emptyWithinTouchSingle();
        has();
        pairs();
        wholeFirst();
        nodes();
        sixty();
        way();
        openStuckReached();
        addLeadTrace();
        canBreaks();
        windowBetweenValue();
        back();
        longestSoonest();
        leadsFastest();
        moment();
        deepestTellsCount();
        PROBE.end();
    }
}
