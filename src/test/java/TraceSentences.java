/** The document's sentences about the trace and its times, each at its edges. */
final class TraceSentences {
    private static final String MAIN = "clock x;clock y;place a when x<=5;place b when y<3;place c;place d;edge a b when x>=2 set y 0;edge b a when y>1 set x 0;edge b c when x=4;edge d d;edge c c;";
    private final Story story;

    TraceSentences(Story story) {
        this.story = story;
    }

    void all() {
        add();
        lead();
        trace();
        can();
        stays();
        window();
        ends();
        between();
        value();
        breaks();
        moment();
    }

    private void add() {
        String quote = "An EDGE comes behind the TRACE: how many it has; -2: it doesn't begin there; -3: it has 20; NONE: no such EDGE.";
        story.tell(quote, "place a;place b;edge a a;edge b b;edge a b;", Story.together("add 1 = -2", Story.counted(18, "add 0", 1), "add 0 = 19", "add 1 = -2", "add 0 = 20", "add 0 = -3", "add 2 = -3",
                "add 1 = -2", "add 3 = -1", "add -1 = -1", "count 5 = 20", "count 6 = 16", "trace 19 = 0", "trace 20 = -2", "undo = 15", "count 5 = 19", "add 2 = 20", "add 2 = -2", "add 1 = -3"));
        story.tell(quote, MAIN, "add 5 = -1", "add -1 = -1", "add MOST = -1", "add LEAST = -1", "add 1 = -2", "add 3 = -2", "count 6 = 0", "add 0 = 1", "add 0 = -2", "add 2 = 2", "add 1 = -2", "add 4 = 3",
                "count 6 = 3");
        story.tell("Of several answers that hold NONE goes first, then -2, -3 and so on", "place a;place b;edge a a;edge b b;", Story.together(Story.counted(20, "add 0", 1), "add 1 = -2", "add 0 = -3",
                "add 2 = -1"));
        story.tell("TRACE: a row of EDGES, at most 20, the first one from START, each from the PLACE to which the one ahead leads.", "place a;place b;place c;edge a b;edge b c;edge c a;start b;", "add 0 = -2",
                "add 2 = -2", "add 1 = 1", "add 1 = -2", "add 0 = -2", "add 2 = 2", "add 0 = 3", "add 1 = 4", "trace 3 = 1", "undo = 3", "add 2 = -2", "add 0 = -2", "add 1 = 4");
        // An EDGE that can't be taken comes all the same; START that can't be, too.
        story.tell(quote, "clock x;place a when x>0;edge a a when x<0;", "add 0 = 1", "can = 0", "add 0 = 2", "can = 0");
        story.tell(quote, null, "add 0 = -1", "tell place a; = 1", "add 0 = -1", "tell place a;edge a a; = 2", "add 0 = 1", "add 1 = -1");
    }

    private void lead() {
        String quote = "The TRACE is empty (p NONE), or is the WAY to a PLACE (its first 20 EDGES): how many it has; -2: it is not reached; NONE: no such PLACE.";
        story.tell(quote, MAIN, "lead 2 = 2", "trace 0 = 0", "trace 1 = 2", "lead 3 = -2", "lead 4 = -1", "lead -2 = -1", "lead MOST = -1", "lead LEAST = -1", "count 6 = 1", "count 5 = 2", "lead 1 = 1", "lead 0 = 0",
                "trace -1 = 0", "lead 1 = 1", "lead -1 = 0", "trace -1 = 0", "count 6 = 5", "undo = 4", "trace -1 = 1");
        // Each EDGE of the WAY is put where another one was.
        story.tell(quote, "place a;place b;place c;edge a a;edge a b;edge b c;", "add 0 = 1", "add 0 = 2", "add 0 = 3", "lead 2 = 2", "trace 0 = 1", "trace 1 = 2", "trace 2 = -2", "undo = 3", "trace 0 = 0", "trace 1 = 0",
                "trace 2 = 0");
        for (int n : new int[] {18, 19, 20, 21}) {
            int many = Math.min(20, n + 1);
            story.tell(quote, NodeSentences.round(n), "lead 1 = " + many, "count 5 = " + many, "trace " + (many - 1) + " = " + (n < 20 ? 1 : 0), "trace " + many + " = -2", "trace 0 = 0",
                    "add " + (n < 20 ? "0 = -2" : many < 20 ? "1 = 20" : "1 = -3"), "can = 1", "window " + (many - 1) + " 0 = " + (n < 20 ? n : 20));
        }
        story.tell(quote, null, "lead 0 = -1", "lead -2 = -1", "lead -1 = 0", "count 6 = 1", "tell clock x;place a when x>0; = 2", "lead 0 = -2", "lead -1 = 0", "lead 1 = -1");
    }

    private void trace() {
        String quote = "The i-th EDGE of the TRACE (i NONE: how many); -2: not so many; NONE: i is below NONE.";
        story.tell(quote, MAIN, "trace -1 = 0", "trace 0 = -2", "trace -2 = -1", "trace LEAST = -1", "add 0 = 1", "add 1 = 2", "trace -1 = 2", "trace 0 = 0", "trace 1 = 1", "trace 2 = -2", "trace MOST = -2",
                "trace -2 = -1");
        story.tell(quote, null, "trace -1 = 0", "trace 0 = -2", "trace -2 = -1");
    }

    private void can() {
        String quote = "Whether the TRACE CAN be (1, 0); NONE: there are no PLACES.";
        story.tell(quote, null, "can = -1", "tell clock x; = -1", "can = -1", "tell place a; = 1", "can = 1", "tell clock x;place a when x>0; = 2", "can = 0", "tell clock x;place a when x>=0; = 2", "can = 1");
        String text = "clock x;place a when x<=3;place b;edge a b when x>=3;edge a b when x>3;edge b b when x=3;edge b b when x<3;edge b b when x<4 set x 0;";
        story.tell(quote, text, "add 0 = 1", "can = 1", "add 2 = 2", "can = 1", "add 3 = 3", "can = 0", "add 2 = 4", "can = 0", "undo = 3", "undo = 2", "can = 1", "add 4 = 3", "add 3 = 4", "can = 1");
        story.tell(quote, text, "add 1 = 1", "can = 0", "window 0 0 = -3", "undo = 0", "can = 1");
        story.tell("none ahead of the one ahead (nor of 0, as all CLOCKS are 0 in START)", "clock x;clock y;place a;edge a a when x=3;edge a a when y=3;edge a a when x=2;", "add 0 = 1", "add 1 = 2", "can = 1",
                "between 0 1 0 = 0", "between 0 1 1 = 1", "between 0 1 2 = 0", "add 2 = 3", "can = 0");
    }

    private void stays() {
        String quote = "(of each PLACE from when one comes, behind the sets, until one leaves; of the last one as one comes)";
        String text = "clock x;clock y;place a when x<5;place b when x<=7 when y>=1;place c when x<=0;edge a b set y 1;edge a b;edge b c set x 0;edge b c;edge a c set x 0;edge c a;";
        // Behind the sets: y is 0 as one comes without a set, 1 with it.
        story.tell(quote, text, "add 0 = 1", "can = 1", "window 0 0 = 0", "window 0 2 = 5", "window 0 3 = 0", "undo = 0", "add 1 = 1", "can = 1", "window 0 0 = 1", "window 0 1 = 1", "window 0 2 = 5", "window 0 3 = 0");
        // Until one leaves: x <= 7 in b; of c, the last one, just as one comes.
        story.tell(quote, text, "add 0 = 1", "add 2 = 2", "can = 1", "window 1 2 = 7", "window 1 3 = 1", "add 5 = 3", "window 2 2 = 7", "window 2 3 = 1", "between 1 2 2 = 0", "between 1 2 3 = 1");
        story.tell(quote, text, "add 0 = 1", "add 3 = 2", "can = 1", "window 0 2 = 0", "window 1 2 = 0", "window 1 3 = 1");
        story.tell(quote, text, "add 4 = 1", "window 0 0 = 0", "window 0 2 = 5", "window 0 3 = 0", "add 5 = 2", "between 0 1 2 = 0", "window 1 2 = 5", "window 1 3 = 0");
        // The last one's STAY holds no longer than that: its upper bound doesn't tell when one came.
        story.tell(quote, "clock x;place a;place b when x<=3;edge a b;edge a b set x 3;edge a b set x 4;", "add 0 = 1", "window 0 2 = 3", "window 0 3 = 1", "undo = 0", "add 1 = 1", "window 0 2 = 10000", "undo = 0",
                "add 2 = 1", "can = 0");
        // START's STAY, from 0 on.
        story.tell(quote, "clock x;place a when x>=0 when x<2;place b when x>1;edge a b;edge b a set x 0;edge b a;", "add 0 = 1", "window 0 0 = 1", "window 0 1 = 0", "window 0 2 = 2", "window 0 3 = 0", "add 2 = 2", "can = 1",
                "window 1 2 = 2", "window 1 3 = 0", "undo = 1", "add 1 = 2", "window 1 2 = 10000");
        story.tell(quote, "clock x;place a when x<0;edge a a;", "can = 0", "breaks = -3", "add 0 = 1", "can = 0", "breaks = 0");
        story.tell(quote, "clock x;place a when x<=0;edge a a;", "can = 1", "breaks = -2", "add 0 = 1", "can = 1", "window 0 2 = 0", "window 0 3 = 1");
    }

    private void window() {
        String quote = "WINDOW of the i-th EDGE, what 0 the least, 1 whether it is reached (1, 0), 2 the greatest (10000: none), 3 whether that is reached (0: none); -2: not so many; -3: it CAN't be; NONE: no such what, i below 0.";
        story.tell(quote, MAIN, "window 0 0 = -2", "window 0 4 = -1", "window -1 0 = -1", "add 0 = 1", "window 0 0 = 2", "window 0 1 = 1", "window 0 2 = 5", "window 0 3 = 1", "window 0 4 = -1", "window 0 -1 = -1",
                "window 1 0 = -2", "window MOST 0 = -2", "window -1 0 = -1", "window LEAST 0 = -1", "window 1 4 = -1", "window -1 -1 = -1");
        story.tell("Of several answers that hold NONE goes first, then -2, -3 and so on", "clock x;place a;edge a a when x<0;", "add 0 = 1", "window 0 0 = -3", "window 0 3 = -3", "window 1 0 = -2", "window 0 4 = -1",
                "window -1 0 = -1", "value 0 0 0 = -3", "value 1 0 0 = -2", "value 0 1 0 = -1", "between 0 1 0 = -2", "moment 0 = -3", "moment 1 = -2", "moment -1 = -1", "add 0 = 2", "between 0 1 0 = -3",
                "between 0 2 0 = -2", "between 0 1 4 = -1", "between 1 1 0 = -1");
        story.tell(quote, null, "window 0 0 = -2", "window -1 0 = -1", "window 0 4 = -1", "moment 0 = -2", "between 0 1 0 = -2", "value 0 0 0 = -1");
        story.tell(quote, "clock x;place a when x>0;", "window 0 0 = -2", "can = 0");
    }

    private void ends() {
        String quote = "WINDOW of an EDGE: the least and the greatest time at which it is taken in such TIMES (each reached or not; no greatest).";
        int[][] want = {{0, 1, 3, 0}, {0, 1, 3, 1}, {3, 1, 3, 1}, {3, 1, 10000, 0}, {3, 0, 10000, 0}};
        String[] rels = {"<", "<=", "=", ">=", ">"};
        for (int rel = 0; rel < 5; rel++) {
            String[] asked = new String[12];
            for (int what = 0; what < 4; what++) {
                asked[what] = "window 0 " + what + " = " + want[rel][what];
                asked[4 + what] = "between 0 1 " + what + " = " + want[rel][what];
                asked[8 + what] = "value 1 0 " + what + " = " + want[rel][what];
            }
            story.tell(quote, "clock x;place a;edge a a when x" + rels[rel] + "3 set x 0;", Story.together("add 0 = 1", "add 0 = 2", asked));
        }
        // A later EDGE narrows an earlier one's, and loosens it when undone.
        story.tell(quote, "clock x;clock y;place a;edge a a set x 0;edge a a when x>=1 when y<=3;edge a a when x>1 when y<3;", "add 0 = 1", "window 0 2 = 10000", "window 0 3 = 0", "add 1 = 2", "window 0 2 = 2",
                "window 0 3 = 1", "undo = 1", "window 0 2 = 10000", "add 2 = 2", "window 0 2 = 2", "window 0 3 = 0", "window 1 0 = 1", "window 1 1 = 0");
        // The least may be as great as 20 times 50.
        story.tell(quote, "clock x;place a;edge a a when x=50 set x 0;edge a a when x>49 set x 0;", Story.together(Story.counted(19, "add 0", 1), "add 1 = 20", "window 18 0 = 950", "window 18 2 = 950", "window 19 0 = 999",
                "window 19 1 = 0", "window 19 2 = 10000", "between 0 19 0 = 949", "between 0 18 2 = 900", "moment 19 = 1000", "moment 18 = 950"));
        story.tell(quote, "clock x;place a;edge a a when x=50 set x 0;", Story.together(Story.counted(20, "add 0", 1), "window 19 0 = 1000", "window 19 1 = 1", "window 19 2 = 1000", "window 19 3 = 1", "window 20 0 = -2",
                "between 18 19 0 = 50", "between 18 20 0 = -2", "value 19 0 0 = 50", "value 20 0 0 = -2", "moment 20 = -2"));
    }

    private void between() {
        String quote = "Of the i-th EDGE to the j-th (i less than j) how long it may be, what as of window(); -2, -3, NONE likewise (i, j as told).";
        story.tell(quote, MAIN, "between 0 1 0 = -2", "between 0 0 0 = -1", "add 0 = 1", "between 0 1 0 = -2", "add 1 = 2", "add 0 = 3", "between 0 1 0 = 1", "between 0 1 1 = 0", "between 0 1 2 = 3", "between 0 1 3 = 0",
                "between 1 2 0 = 2", "between 1 2 1 = 1", "between 1 2 2 = 5", "between 1 2 3 = 1", "between 0 2 0 = 3", "between 0 2 1 = 0", "between 0 2 2 = 8", "between 0 2 3 = 0", "between 0 3 0 = -2",
                "between 2 3 0 = -2", "between 3 4 0 = -2", "between 0 MOST 0 = -2", "between 0 0 0 = -1", "between 2 2 0 = -1", "between 1 0 0 = -1", "between 3 3 0 = -1", "between 4 3 0 = -1",
                "between -1 0 0 = -1", "between -1 1 0 = -1", "between -2 -1 0 = -1", "between LEAST MOST 0 = -1", "between 0 1 4 = -1", "between 0 1 -1 = -1", "between 0 3 4 = -1");
    }

    private void value() {
        String quote = "What a CLOCK may have as the i-th EDGE is taken, ahead of its sets, what as of window(); -2, -3, NONE likewise (no such CLOCK, too).";
        story.tell(quote, "clock x;clock y;place a;edge a a when x>=2 when x<4 set x 1 set y 7;edge a a when x<=3;", "value 0 0 0 = -2", "value 0 2 0 = -1", "value 0 -1 0 = -1", "add 0 = 1", "value 0 0 0 = 2", "value 0 0 1 = 1",
                "value 0 0 2 = 4", "value 0 0 3 = 0", "value 0 1 0 = 2", "value 0 1 2 = 4", "add 1 = 2", "value 1 0 0 = 1", "value 1 0 1 = 1", "value 1 0 2 = 3", "value 1 0 3 = 1", "value 1 1 0 = 7", "value 1 1 2 = 9",
                "value 0 0 0 = 2", "value 2 0 0 = -2", "value MOST 0 0 = -2", "value -1 0 0 = -1", "value LEAST 0 0 = -1", "value 0 2 0 = -1", "value 0 -1 0 = -1", "value 0 MOST 0 = -1", "value 0 0 4 = -1",
                "value 0 0 -1 = -1", "value 2 2 0 = -1", "value 2 0 4 = -1");
        story.tell(quote, "clock x;clock y;place a;edge a a set x 50;edge a a when x>50;edge a a;", "add 0 = 1", "add 1 = 2", "add 2 = 3", "value 1 0 0 = 50", "value 1 0 1 = 0", "value 1 0 2 = 10000", "value 1 0 3 = 0",
                "value 2 0 0 = 50", "value 2 0 1 = 0", "value 2 1 0 = 0", "value 2 1 1 = 0", "value 0 1 0 = 0", "value 0 1 1 = 1");
    }

    private void breaks() {
        String quote = "The first EDGE of the TRACE so that the TRACE up to it CAN't be; -2: it CAN be; -3: it has no EDGE, and can't be; NONE: there are no PLACES.";
        story.tell(quote, null, "breaks = -1", "tell clock x; = -1", "breaks = -1", "tell place a; = 1", "breaks = -2", "tell clock x;place a when x>0; = 2", "breaks = -3");
        // Its place in the TRACE is told, as the same EDGE may come several times: the second EDGE 1 breaks here.
        story.tell(quote, "clock x;place a;edge a a;edge a a when x<3;edge a a when x>=3;", "breaks = -2", "add 0 = 1", "breaks = -2", "add 1 = 2", "breaks = -2", "add 2 = 3", "breaks = -2", "add 0 = 4", "add 1 = 5", "breaks = 4",
                "add 0 = 6", "breaks = 4", "undo = 5", "undo = 4", "breaks = -2");
        story.tell(quote, "clock x;place a when x>0;edge a a;", "breaks = -3", "add 0 = 1", "breaks = 0", "add 0 = 2", "breaks = 0", "undo = 1", "undo = 0", "breaks = -3");
        // By STAY of its end, as one comes; by the last of 20.
        story.tell(quote, "clock x;place a;place b when x<0;edge a a;edge a b;", Story.together(Story.counted(19, "add 0", 1), "breaks = -2", "add 1 = 20", "breaks = 19", "can = 0"));
        story.tell(quote, "clock x;place a;place b when x<0;edge a b;", "add 0 = 1", "breaks = 0");
        // By STAY of where it begins, by its whens, and by a time that is gone.
        story.tell(quote, "clock x;place a when x<=3;place b;edge a b when x>3;edge a b when x>=3;edge b b when x<3;edge b b when x<=3;", "add 0 = 1", "breaks = 0", "undo = 0", "add 1 = 1", "breaks = -2", "add 3 = 2", "breaks = -2",
                "add 2 = 3", "breaks = 2", "add 3 = 4", "breaks = 2");
    }

    private void moment() {
        String quote = "The whole time at which the i-th EDGE of the TRACE is taken in those whole TIMES in which the first EDGE is taken earliest, then the second one, and so on; -2: not so many; -3: it CAN't be; -4: there are no whole TIMES; NONE: i below 0.";
        String text = "clock x;clock y;place a;place b;edge a b when x>1 set y 0;edge b a when y>0 when x<3;edge b a when y>0 when x<=3;edge b a when y<0;edge a a when x>=2;";
        story.tell(quote, text, "moment 0 = -2", "moment -1 = -1", "moment LEAST = -1", "add 0 = 1", "moment 0 = 2", "moment 1 = -2", "add 1 = 2", "can = 1", "moment 0 = -4", "moment 1 = -4", "moment 2 = -2", "moment -1 = -1",
                "undo = 1", "add 2 = 2", "moment 0 = 2", "moment 1 = 3", "undo = 1", "add 3 = 2", "can = 0", "moment 0 = -3", "moment 1 = -3", "moment 2 = -2", "moment MOST = -2");
        story.tell(quote, text, "add 4 = 1", "moment 0 = 2", "add 4 = 2", "moment 1 = 2", "add 0 = 3", "moment 0 = 2", "moment 1 = 2", "moment 2 = 2");
        // The first one waits for what a later one asks.
        story.tell(quote, "clock x;clock y;place a;edge a a set x 0;edge a a when x<=1 when y>=5;edge a a when x<1 when y>5;", "add 0 = 1", "moment 0 = 0", "add 1 = 2", "moment 0 = 4", "moment 1 = 5", "undo = 1", "add 2 = 2",
                "moment 0 = 6", "moment 1 = 6");
        story.tell(quote, "clock x;place a when x<=0;edge a a;", Story.together(Story.counted(20, "add 0", 1), "moment 0 = 0", "moment 19 = 0", "moment 20 = -2"));
    }
}
