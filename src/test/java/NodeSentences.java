/** The document's sentences about what a text told and the nodes that are reached, each at its edges. */
final class NodeSentences {
    private static final String MAIN = "clock x;clock y;place a when x<=5;place b when y<3;place c;place d when x<1 when x<1 when y>0;edge a b when x>=2 set y 0;"
            + "edge b a when y>1 set x 0;edge b c when x=4 when y<9;edge d d;";
    private final Story story;

    NodeSentences(Story story) {
        this.story = story;
    }

    void all() {
        place();
        edge();
        whenSet();
        tells();
        count();
        nodeZero();
        newNodes();
        orderOfNodes();
        sixty();
        node();
        nodeBound();
        way();
        openStuckReached();
        leads();
        fastest();
        deepest();
    }

    private void place() {
        String quote = "IndexOutOfBoundsException: no such one. NoSuchElementException: no such what.";
        story.tell(quote, MAIN, "place -1 0 = index", "place 4 0 = index", "place MOST 0 = index", "place LEAST 0 = index", "place 0 -1 = element", "place 3 5 = element",
                "place 0 MOST = element", "place 0 LEAST = element", "place 3 4 = 0", "place 0 0 = 1");
        story.tell("IndexOutOfBoundsException ahead of NoSuchElementException.", MAIN, "place 4 5 = index", "place -1 -1 = index", "place 3 5 = element", "edge 4 5 = index",
                "edge -1 -1 = index", "edge 3 5 = element");
        story.tell("Of a PLACE, what 0 how many whens its STAY has, 1 how many EDGES begin at it, 2 end at it, 3 its first NODE (-2: none), 4 how many NODES.", MAIN,
                "place 0 0 = 1", "place 0 1 = 1", "place 0 2 = 1", "place 0 3 = 0", "place 0 4 = 2", "place 1 0 = 1", "place 1 1 = 2", "place 1 2 = 1", "place 1 3 = 1", "place 1 4 = 1",
                "place 2 0 = 0", "place 2 1 = 0", "place 2 2 = 1", "place 2 3 = 3", "place 2 4 = 1", "place 3 0 = 3", "place 3 1 = 1", "place 3 2 = 1", "place 3 3 = -2", "place 3 4 = 0");
        story.tell("3 its first NODE (-2: none), 4 how many NODES.", "clock x;place a when x>0;", "place 0 3 = -2", "place 0 4 = 0");
        story.tell("3 its first NODE (-2: none), 4 how many NODES.", "clock x;place a when x>=0;", "place 0 3 = 0", "place 0 4 = 1");
        story.tell("what 0 how many whens its STAY has", "clock x;place a" + Story.times(" when x<9", 6) + ";place b" + Story.times(" when x<9", 5) + ";edge a a when x<1;",
                "place 0 0 = 6", "place 1 0 = 5", "place 0 1 = 1", "place 0 2 = 1");
        story.tell("1 how many EDGES begin at it, 2 end at it", "place a;place b;" + Story.times("edge a b;", 15) + "edge b b;", "place 0 1 = 15", "place 0 2 = 0", "place 1 1 = 1",
                "place 1 2 = 16");
    }

    private void edge() {
        String quote = "Of an EDGE, what 0 from which PLACE, 1 to which, 2 how many whens, 3 how many sets, 4 whether a NODE came by it (1, 0).";
        story.tell(quote, MAIN, "edge 0 0 = 0", "edge 0 1 = 1", "edge 0 2 = 1", "edge 0 3 = 1", "edge 0 4 = 1", "edge 1 0 = 1", "edge 1 1 = 0", "edge 2 2 = 2", "edge 2 3 = 0",
                "edge 3 0 = 3", "edge 3 1 = 3", "edge 3 2 = 0", "edge 3 3 = 0", "edge 3 4 = 0", "edge 4 0 = index", "edge -1 0 = index", "edge MOST 4 = index", "edge LEAST 4 = index",
                "edge 3 -1 = element", "edge 3 5 = element", "edge 0 MOST = element", "edge 0 LEAST = element");
        // An edge by which nothing new came has no NODE, though it can be taken.
        story.tell("4 whether a NODE came by it (1, 0)", "place a;place b;edge a a;edge a b;edge a b;edge b a;", "nodes = 2", "edge 0 4 = 0", "edge 1 4 = 1", "edge 2 4 = 0", "edge 3 4 = 0");
        story.tell("2 how many whens, 3 how many sets", "clock a;clock b;clock c;clock d;place p;edge p p" + Story.times(" when a<1", 6) + " set a 0 set b 0 set c 0 set d 0;edge p p;",
                "edge 0 2 = 6", "edge 0 3 = 4", "edge 1 2 = 0", "edge 1 3 = 0");
        story.tell(quote, "place a;", "edge 0 0 = index", "edge 0 9 = index");
        story.tell(quote, "place a;" + Story.times("edge a a;", 16), "edge 15 0 = 0", "edge 16 0 = index", "edge 15 4 = 0");
    }

    private void whenSet() {
        String text = "clock x;clock y;place a when y<=49;edge a a when y<0 when x<=1 when y=2 when x>=3 when y>4 when x<50 set y 50 set x 0;edge a a when x>7;edge a a set y 1;";
        String when = "Of an EDGE's k-th when (k from 0 on), what 0 the CLOCK, 1 REL (0 <, 1 <=, 2 =, 3 >=, 4 >), 2 N; -2: there are not so many; NONE: no such ones.";
        story.tell(when, text, "when 0 0 0 = 1", "when 0 0 1 = 0", "when 0 0 2 = 0", "when 0 1 0 = 0", "when 0 1 1 = 1", "when 0 1 2 = 1", "when 0 2 1 = 2", "when 0 3 1 = 3", "when 0 4 1 = 4",
                "when 0 4 2 = 4", "when 0 5 0 = 0", "when 0 5 1 = 0", "when 0 5 2 = 50", "when 0 6 0 = -2", "when 0 MOST 0 = -2", "when 0 -1 0 = -1", "when 0 LEAST 0 = -1",
                "when 1 0 0 = 0", "when 1 0 2 = 7", "when 1 1 0 = -2", "when 2 0 0 = -2", "when 3 0 0 = -1", "when -1 0 0 = -1", "when MOST 0 0 = -1", "when 0 0 3 = -1", "when 0 0 -1 = -1",
                "when 0 0 MOST = -1");
        story.tell("Of several answers that hold NONE goes first, then -2, -3 and so on", text, "when 0 6 3 = -1", "when 3 6 0 = -1", "when 2 0 -1 = -1", "set 0 2 2 = -1", "set 3 9 0 = -1",
                "set 1 0 -1 = -1");
        String set = "Of an EDGE's k-th set, what 0 the CLOCK, 1 N; -2: there are not so many; NONE: no such ones.";
        story.tell(set, text, "set 0 0 0 = 1", "set 0 0 1 = 50", "set 0 1 0 = 0", "set 0 1 1 = 0", "set 0 2 0 = -2", "set 0 MOST 1 = -2", "set 0 -1 0 = -1", "set 0 LEAST 0 = -1", "set 1 0 0 = -2",
                "set 2 0 0 = 1", "set 2 1 0 = -2", "set 3 0 0 = -1", "set -1 0 0 = -1", "set 0 0 2 = -1", "set 0 0 -1 = -1", "set 0 0 LEAST = -1");
    }

    private void tells() {
        String quote = "Of a CLOCK, as bits: EDGES that have a when of it (what 0), that set it (1), PLACES whose STAY has one (2); NONE: no such ones.";
        story.tell(quote, MAIN, "tells 0 0 = 5", "tells 1 0 = 6", "tells 0 1 = 2", "tells 1 1 = 1", "tells 0 2 = 9", "tells 1 2 = 10", "tells 2 0 = -1", "tells -1 0 = -1", "tells MOST 0 = -1",
                "tells 0 3 = -1", "tells 0 -1 = -1", "tells 0 MOST = -1", "tells 2 3 = -1");
        story.tell(quote, "clock x;place a;place b;place c;place d;place e;place f;place g;place h when x<=1;" + Story.times("edge a h;", 15) + "edge a h when x<1 set x 0;", "tells 0 0 = 32768",
                "tells 0 1 = 32768", "tells 0 2 = 128");
        story.tell(quote, "clock x;place a;edge a a;", "tells 0 0 = 0", "tells 0 1 = 0", "tells 0 2 = 0", "tells 1 0 = -1");
        story.tell(quote, "place a;", "tells 0 0 = -1");
    }

    private void count() {
        String quote = "0 LINES, 1 CLOCKS, 2 PLACES, 3 EDGES, 4 START, 5 EDGES of the TRACE, 6 what can be undone, 7 bytes of the TAPE. NONE for another what (4: without PLACES).";
        story.tell(quote, MAIN, "add 0 = 1", "add 1 = 2", "lay 0 1 = 1", "feed 0 0 0 0 0 = 20", "count 0 = 10", "count 1 = 2", "count 2 = 4", "count 3 = 4", "count 4 = 0", "count 5 = 2", "count 6 = 3",
                "count 7 = 20", "count 8 = -1", "count -1 = -1", "count MOST = -1", "count LEAST = -1");
        story.tell(quote, null, "count 4 = -1", "tell clock x; = -1", "count 4 = -1", "tell place a; = 1", "count 4 = 0", "tell clock x; = -1", "count 4 = 0");
        story.tell(quote, "place a;place b;start b;", "count 4 = 1", "count 8 = -1");
    }

    private void nodeZero() {
        String quote = "NODE 0: START, WAIT of all 0, ROUGH (no NODES, if that is EMPTY).";
        String[][] stays = {{"x>0", "0"}, {"x>=0", "1"}, {"x<0", "0"}, {"x<=0", "1"}, {"x=0", "1"}, {"x>=1", "0"}, {"x=1", "0"}, {"x<1", "1"}};
        for (String[] s : stays) {
            String are = s[1];
            story.tell(quote, "clock x;place a when " + s[0] + ";place b;edge a b;", "place 0 4 = " + are, "place 1 4 = " + are, "reached = " + (are.equals("1") ? 3 : 0),
                    "can = " + are, "open 0 = " + (are.equals("1") ? 1 : -1), "stuck = " + (are.equals("1") ? 1 : -2), "lead 0 = " + (are.equals("1") ? 0 : -2));
        }
        story.tell(quote, "clock x;place a when x>0;", "nodes = 0", "node 0 0 = -3", "deepest 0 = -2", "deepest 1 = -2", "way 0 -1 = -2", "way 0 0 = -2", "fastest 0 0 = -2", "take 0 0 = -1",
                "nodeBound 0 0 -1 0 = -2000", "edge 0 0 = index");
        story.tell(quote, "clock x;clock y;place a;place b when x<=2;edge a b when y<5;start b;", "node 0 0 = 1", "nodeBound 0 0 -1 0 = 2", "nodeBound 0 0 -1 1 = 1", "nodeBound 0 1 -1 0 = 2",
                "nodeBound 0 0 1 0 = 0", "nodeBound 0 1 0 0 = 0", "nodes = 1", "stuck = 0");
        // ROUGH at NODE 0: all go up without end there anyhow; x = y stays, as 0 isn't above GREAT.
        story.tell(quote, "clock x;clock y;place a;", "nodeBound 0 0 -1 0 = 1000", "nodeBound 0 0 1 0 = 0", "nodeBound 0 0 1 1 = 1", "nodeBound 0 -1 0 0 = 0", "nodeBound 0 -1 0 1 = 1");
        story.tell(quote, "place a;", "nodes = 1", "node 0 0 = 0", "open 0 = 0", "stuck = 0");
    }

    private void newNodes() {
        String quote = "if it isn't EMPTY, and no NODE of that PLACE has all its times, it is the next NODE, by that one and that EDGE";
        // The same times, fewer, more.
        story.tell(quote, "clock x;place a when x<=0;place b;edge a b set x 2;edge a b set x 2;edge a b set x 3;edge a b set x 1;", "nodes = 3", "node 1 2 = 0", "node 2 2 = 3", "place 1 3 = 1",
                "place 1 4 = 2", "nodeBound 1 -1 0 0 = -2", "nodeBound 2 -1 0 0 = -1");
        // By what is reached alone.
        story.tell(quote, "clock x;place a;place b;edge a b when x>2;edge a b when x>=2;", "nodes = 3", "node 1 2 = 0", "node 2 2 = 1", "nodeBound 1 -1 0 1 = 0", "nodeBound 2 -1 0 1 = 1");
        story.tell(quote, "clock x;place a;place b;edge a b when x>=2;edge a b when x>2;", "nodes = 2", "edge 1 4 = 0");
        // Another PLACE's NODE with all the times doesn't count.
        story.tell(quote, "place a;place b;place c;edge a b;edge b c;edge c a;", "nodes = 3", "node 2 0 = 2");
        // No single NODE has all its times, though two together do: x in 0 .. 2, in 1 .. 3, then in 0 .. 3.
        story.tell(quote, "clock x;clock z;place a;place c when z<=0;edge a c when x<=2 set z 0;edge a c when x>=1 when x<=3 set z 0;edge a c when x<=3 set z 0;edge a c when x<=1 set z 0;", "place 1 4 = 3",
                "edge 2 4 = 1", "edge 3 4 = 0", "node 3 2 = 2", "nodeBound 3 0 -1 0 = 3", "nodeBound 3 -1 0 0 = 0", "nodes = 4");
        // EMPTY: by its whens, by STAY of its end.
        story.tell(quote, "clock x;place a when x<=2;place b when x<2;edge a b when x>2;edge a b when x>=2;edge a b set x 2;edge a b when x<0;", "nodes = 1", "open 0 = 0", "stuck = 0", "reached = 1");
        story.tell(quote, "clock x;place a when x<=2;place b when x<=2;edge a b when x>2;edge a b when x>=2;", "nodes = 2", "open 0 = 2", "node 1 2 = 1");
        // ROUGH makes the times one round later the same as those one round earlier.
        story.tell("made rough so that they end", "clock x;clock y;place a when x<=1;edge a a when x=1 set x 0;", "nodes = 2", "node 1 1 = 0", "nodeBound 1 1 -1 0 = 1000", "nodeBound 1 -1 1 0 = 0",
                "nodeBound 1 -1 1 1 = 0");
    }

    private void orderOfNodes() {
        String quote = "Of each NODE, by numbers, each EDGE of its PLACE, by numbers";
        story.tell(quote, "place a;place b;place c;place d;place e;edge b e;edge a c;edge a b;edge c d;", "nodes = 5", "node 1 0 = 2", "node 1 2 = 1", "node 2 0 = 1", "node 2 2 = 2", "node 3 0 = 3",
                "node 3 1 = 1", "node 3 2 = 3", "node 4 0 = 4", "node 4 1 = 2", "node 4 2 = 0");
        story.tell(quote, "place a;place b;place c;edge a c;edge b c;edge a b;", "node 1 0 = 2", "node 2 0 = 1", "nodes = 3", "way 2 -1 = 1", "edge 1 4 = 0");
    }

    /** Time stands still, so that each row of numbers set is a NODE of its own; then further PLACES. */
    private static String still(int most, int mostToo, int more) {
        StringBuilder text = new StringBuilder("clock x;clock y;clock z;place a when z<=0;");
        for (int k = 0; k < more; k++) {
            text.append("place ").append((char) ('b' + k)).append(";");
        }
        for (int n = 1; n <= most; n++) {
            text.append("edge a a set x ").append(n).append(";");
        }
        for (int n = 1; n <= mostToo; n++) {
            text.append("edge a a set y ").append(n).append(";");
        }
        for (int k = 0; k < more; k++) {
            text.append("edge a ").append((char) ('b' + k)).append(" when x=").append(most).append(" when y=").append(mostToo).append(";");
        }
        return text.toString();
    }

    private void sixty() {
        String quote = "60 at most: then no more come.";
        story.tell(quote, still(6, 7, 3), "nodes = 59", "reached = 15", "place 0 4 = 56", "place 3 3 = 58", "node 58 0 = 3", "node 59 0 = -3");
        story.tell(quote, still(5, 9, 0), "nodes = 60", "node 59 0 = 0", "node 60 0 = -3", "take 0 59 = 1", "take 0 60 = -1", "open 59 = 16383", "open 60 = -1");
        story.tell(quote, still(5, 9, 1), "nodes = 60", "reached = 1", "place 1 3 = -2", "place 1 4 = 0", "edge 14 4 = 0", "lead 1 = -2", "way 1 -1 = -2", "open 59 = 32767",
                "nodeBound 60 0 -1 0 = -2000", "nodeBound 59 0 1 0 = -4", "leads 0 = 3", "fastest 1 0 = -2", "stuck = -2");
        // Another PLACE's NODE that comes earlier is there, and none behind it.
        story.tell(quote, still(5, 9, 0) + "place b;edge a b when x=1 when y=0;", "nodes = 60", "reached = 3", "place 1 4 = 1", "place 0 4 = 59");
        story.tell(quote, still(7, 7, 2), "nodes = 60", "reached = 1", "edge 14 4 = 0", "edge 15 4 = 0");
    }

    private void node() {
        String quote = "Of a NODE, what 0 the PLACE, 1 by which NODE (-2: NODE 0), 2 by which EDGE (-2), 3 how many EDGES lead to it; -3: no such NODE; NONE: no such what.";
        story.tell(quote, MAIN, "nodes = 4", "node 0 0 = 0", "node 0 1 = -2", "node 0 2 = -2", "node 0 3 = 0", "node 1 0 = 1", "node 1 1 = 0", "node 1 2 = 0", "node 1 3 = 1", "node 3 0 = 2", "node 3 1 = 1",
                "node 3 2 = 2", "node 3 3 = 2", "node 4 0 = -3", "node -1 0 = -3", "node MOST 3 = -3", "node LEAST 3 = -3", "node 0 4 = -1", "node 0 -1 = -1", "node 0 MOST = -1");
        story.tell("Of several answers that hold NONE goes first, then -2, -3 and so on", MAIN, "node 4 4 = -1", "node -1 -1 = -1");
        story.tell("How many NODES there are.", null, "nodes = 0", "tell place a; = 1", "nodes = 1", "tell clock x;place a when x>0; = 2", "nodes = 0", "tell place a;place b;edge a b; = 3", "nodes = 2");
    }

    private void nodeBound() {
        String quote = "BOUND of a NODE: as of bound().";
        story.tell(quote, MAIN, "nodeBound 0 0 -1 0 = 5", "nodeBound 0 0 -1 1 = 1", "nodeBound 3 0 -1 0 = 1000", "nodeBound 3 0 -1 1 = 0", "nodeBound 1 1 -1 0 = 3", "nodeBound 1 1 -1 1 = 0",
                "nodeBound 4 0 -1 0 = -2000", "nodeBound -1 0 -1 0 = -2000", "nodeBound MOST 0 -1 0 = -2000", "nodeBound 0 0 0 0 = -2000", "nodeBound 0 -1 -1 0 = -2000", "nodeBound 0 2 0 0 = -2000",
                "nodeBound 0 0 2 0 = -2000", "nodeBound 0 -2 0 0 = -2000", "nodeBound 0 0 -1 2 = -2000", "nodeBound 0 0 -1 -1 = -2000");
        story.tell(quote, MAIN, "lay 0 2 = 1", "nodeBound 0 0 -1 0 = 5", "lay 0 1 = 1", "nodeBound 0 0 -1 0 = 5");
    }

    private void way() {
        String quote = "The i-th EDGE of the WAY to a PLACE (i NONE: how many); -2: it is not reached, not so many; NONE: no such ones.";
        story.tell(quote, MAIN, "way 2 -1 = 2", "way 2 0 = 0", "way 2 1 = 2", "way 2 2 = -2", "way 2 MOST = -2", "way 2 -2 = -1", "way 2 LEAST = -1", "way 0 -1 = 0", "way 0 0 = -2", "way 3 -1 = -2",
                "way 3 0 = -2", "way 3 -2 = -1", "way 4 -1 = -1", "way -1 -1 = -1", "way 4 -2 = -1", "way MOST 0 = -1");
        // The WAY is that of the first NODE, though another EDGE leads straight there later.
        story.tell("WAY to a PLACE: the EDGES that lead from NODE 0 to its first NODE.", "clock x;place a when x<=0;place b;place c;edge a b;edge b c set x 1;edge a c set x 0;", "place 2 3 = 2",
                "way 2 -1 = 1", "way 2 0 = 2", "place 2 4 = 1");
        story.tell("WAY to a PLACE: the EDGES that lead from NODE 0 to its first NODE.", round(20), "way 1 -1 = 21", "way 1 20 = 1", "way 1 19 = 0", "way 1 21 = -2");
        story.tell("WAY to a PLACE: the EDGES that lead from NODE 0 to its first NODE.", round(50), "way 1 -1 = 51", "way 1 50 = 1", "way 1 0 = 0", "way 1 51 = -2", "deepest 1 = 51");
    }

    /** A text by which it takes n rounds in a, of one each, until b opens. */
    static String round(int n) {
        return "clock x;clock y;place a when x<=1;place b;edge a a when x=1 set x 0;edge a b when y>=" + n + " when x<1;";
    }

    private void openStuckReached() {
        String open = "EDGES (bits) of a NODE by which STEP isn't EMPTY; NONE: no such NODE.";
        story.tell(open, MAIN, "open 0 = 1", "open 1 = 6", "open 2 = 1", "open 3 = 0", "open 4 = -1", "open -1 = -1", "open MOST = -1", "open LEAST = -1");
        // Also those by which no NODE came, and none of other PLACES.
        story.tell(open, "place a;place b;" + Story.times("edge a a;", 14) + "edge b b;edge a b;", "open 0 = " + (16383 | 32768), "open 1 = 16384");
        story.tell(open, null, "open 0 = -1", "tell place a; = 1", "open 0 = 0", "open 1 = -1");
        String stuck = "The first NODE of which no such EDGE is there; -2: none.";
        story.tell(stuck, null, "stuck = -2", "tell place a; = 1", "stuck = 0", "tell place a;edge a a; = 2", "stuck = -2", "tell place a;place b;edge a b; = 3", "stuck = 1",
                "tell place a;place b;edge a b;edge b b; = 4", "stuck = -2", "tell clock x;place a when x>0; = 2", "stuck = -2");
        story.tell(stuck, "clock x;place a when x<=2;edge a a when x>2;", "stuck = 0", "tell clock x;place a when x<=2;edge a a when x>=2; = 3", "stuck = -2");
        story.tell(stuck, "place a;place b;place c;place d;edge a b;edge a c;edge b d;", "stuck = 2", "open 2 = 0", "open 3 = 0");
        String reached = "PLACES (bits) that have NODES.";
        story.tell(reached, null, "reached = 0", "tell place a; = 1", "reached = 1", "tell place a;place b;start b; = 3", "reached = 2",
                "tell place a;place b;place c;place d;place e;place f;place g;place h;edge a h; = 9", "reached = 129");
        story.tell(reached, MAIN, "reached = 7");
    }

    private void leads() {
        String quote = "PLACES (bits) to which EDGES alone, one behind another, lead from a PLACE (itself, too); NONE: no such PLACE.";
        story.tell(quote, MAIN, "leads 0 = 7", "leads 1 = 7", "leads 2 = 4", "leads 3 = 8", "leads 4 = -1", "leads -1 = -1", "leads MOST = -1", "leads LEAST = -1");
        // Edges that can never be taken lead all the same; so they do backwards along their numbers.
        story.tell(quote, "clock x;place a;place b;place c;place d;place e;place f;place g;place h;edge g h when x<0;edge f g;edge e f;edge d e;edge c d;edge b c;edge a b when x<0;", "leads 0 = 255",
                "leads 1 = 254", "leads 6 = 192", "leads 7 = 128", "reached = 1");
        story.tell(quote, null, "leads 0 = -1", "tell place a; = 1", "leads 0 = 1", "leads 1 = -1");
    }

    private void fastest() {
        String quote = "WINDOW of the last EDGE of the WAY to a PLACE (as if that were the TRACE, whatever its length), what 0 the least, 1 whether it is reached (0, 1 where the WAY has no EDGE); -2: it is not reached; -3: it CAN't be; NONE: no such ones.";
        story.tell(quote, MAIN, "fastest 0 0 = 0", "fastest 0 1 = 1", "fastest 1 0 = 2", "fastest 1 1 = 1", "fastest 2 0 = 4", "fastest 3 0 = -2", "fastest 3 1 = -2", "fastest 4 0 = -1", "fastest -1 0 = -1",
                "fastest 0 2 = -1", "fastest 0 -1 = -1", "fastest 3 2 = -1", "fastest MOST 0 = -1", "fastest 0 LEAST = -1");
        story.tell(quote, "clock x;place a;place b;place c;edge a b when x>2 set x 0;edge b c when x>=3;", "fastest 1 0 = 2", "fastest 1 1 = 0", "fastest 2 0 = 5", "fastest 2 1 = 0");
        story.tell(quote, "clock x;place a;place b;place c;edge a b when x>=2 set x 9;edge b c when x>=10;", "fastest 1 0 = 2", "fastest 1 1 = 1", "fastest 2 0 = 3", "fastest 2 1 = 1");
        story.tell(quote, "clock x;place a;place b;place c;edge a b when x>2;edge b c when x>=3;", "fastest 1 0 = 2", "fastest 1 1 = 0", "fastest 2 0 = 3", "fastest 2 1 = 1");
        // Four clocks, all set on the way, so that none of them tells how long it took.
        story.tell(quote, "clock a;clock b;clock c;clock d;place p when a<=3;place q when b<9;place r;edge p q when a>=2 set b 1 set a 7;edge q r when b>4 when d<50 set c 0 set d 5 set a 0 set b 0;", "fastest 1 0 = 2",
                "fastest 1 1 = 1", "fastest 2 0 = 5", "fastest 2 1 = 0");
        // Longer than a TRACE may be: exactly 20 rounds, 19 and 21, and the longest one.
        for (int n : new int[] {18, 19, 20, 50}) {
            story.tell(quote, round(n), "way 1 -1 = " + (n + 1), "fastest 1 0 = " + n, "fastest 1 1 = 1", "count 5 = 0");
        }
        // Beyond 400 and without a trace: nothing is refused there.
        story.tell(quote, "clock x;place a;place b;place c;place d;place e;place f;place g;place h;" + chain(), "fastest 7 0 = 350", "fastest 7 1 = 1", "lead 7 = 7", "window 6 0 = 350", "window 6 2 = 350");
    }

    private static String chain() {
        StringBuilder text = new StringBuilder();
        for (char p = 'a'; p < 'h'; p++) {
            text.append("edge ").append(p).append(" ").append((char) (p + 1)).append(" when x=50 set x 0;");
        }
        return text.toString();
    }

    private void deepest() {
        String quote = "The PLACE whose WAY has most EDGES, of several the least number (what 0), how many (1); -2: none is reached; NONE: no such what.";
        story.tell(quote, MAIN, "deepest 0 = 2", "deepest 1 = 2", "deepest 2 = -1", "deepest -1 = -1", "deepest MOST = -1", "deepest LEAST = -1");
        story.tell(quote, "place a;place b;place c;place d;edge a d;edge a c;edge a b;", "deepest 0 = 1", "deepest 1 = 1");
        story.tell(quote, "place a;place b;place c;place d;edge d b;edge b a;edge d c;start d;", "deepest 0 = 0", "deepest 1 = 2");
        story.tell(quote, null, "deepest 0 = -2", "deepest 1 = -2", "deepest 2 = -1", "tell place a;place b;start b; = 3", "deepest 0 = 1", "deepest 1 = 0", "tell clock x;place a when x>0; = 2",
                "deepest 0 = -2", "deepest 1 = -2", "deepest 2 = -1");
    }
}
