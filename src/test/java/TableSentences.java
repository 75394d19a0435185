/** The document's sentences about tables, each at its edges. */
final class TableSentences {
    private static final String TWO = "clock x;clock y;place a;";
    private static final String FOUR = "clock a;clock b;clock c;clock d;place p;";
    /** Table 0: a >= 100, b - a >= 100, c - b >= 100, d - c >= 100, so that d >= 400; then a is free. */
    private static final String[] LOW = {"lay 0 1 = 1", "meet 0 0 -1 3 100 = 1", "meet 0 1 0 3 100 = 1", "meet 0 2 1 3 100 = 1",
        "meet 0 3 2 3 100 = 1", "bound 0 -1 3 0 = -400", "free 0 0 = 1"};
    /** Table 0: a <= 100, b - a <= 100, c - b <= 100, d - c <= 100, so that d <= 400; then a is free. */
    private static final String[] HIGH = {"lay 0 1 = 1", "meet 0 0 -1 1 100 = 1", "meet 0 1 0 1 100 = 1", "meet 0 2 1 1 100 = 1",
        "meet 0 3 2 1 100 = 1", "bound 0 3 -1 0 = 400", "free 0 0 = 1"};
    private final Story story;

    TableSentences(Story story) {
        this.story = story;
    }

    void all() {
        lay();
        meetArguments();
        meetRels();
        emptied();
        closed();
        pass();
        reset();
        free();
        copyJoinBoth();
        stepStay();
        stepsSetsTogether();
        ownTable();
        great();
        rough();
        take();
        beyond();
        beyondByOthers();
        notBeyond();
        undo();
        bound();
        emptyWithinTouch();
        has();
        pairs();
        whole();
        first();
        width();
        back();
        longest();
        soonest();
        single();
    }

    /** Each wrong table number, with a call that is right otherwise: "call # rest". */
    private void noSuchTable(String quote, String text, String call, String due) {
        for (String t : new String[] {"-1", "4", "MOST", "LEAST"}) {
            story.tell(quote, text, "lay 0 1 = 1", "reset 3 0 7 = 1", call.replace("#", t) + " = " + due);
        }
        for (int t = 0; t < 4; t++) {
            String line = call.replace("#", "" + t);
            ClockZones z = Probe.of(text);
            String[] words = line.split(" ");
            int[] args = new int[words.length - 1];
            for (int k = 0; k < args.length; k++) {
                args[k] = Integer.parseInt(words[k + 1]);
            }
            long got = new Calls(ClockZones.class).ask(z, words[0], args);
            story.tell(quote, text, line + " = " + got, "count 6 = " + z.count(6));
            story.isAnother(quote + ": " + line, Long.parseLong(due), got);
        }
    }

    private void lay() {
        String quote = "A TABLE is all 0 (what 0), all times (1), EMPTY (2): true; false: no such ones.";
        story.tell(quote, TWO, "lay 0 -1 = 0", "lay 0 3 = 0", "lay 0 MOST = 0", "lay 0 LEAST = 0", "lay 4 3 = 0", "count 6 = 0",
                "lay 0 1 = 1", "has 0 0 0 0 0 = 1", "has 0 9 0 0 0 = 1", "has 0 0 MOST 0 0 = 1", "lay 0 2 = 1", "empty 0 = 1",
                "has 0 0 0 0 0 = 0", "lay 0 0 = 1", "has 0 0 0 0 0 = 1", "has 0 1 0 0 0 = 0", "has 0 0 1 0 0 = 0", "has 0 1 1 0 0 = 0",
                "count 6 = 3");
        noSuchTable(quote, TWO, "lay # 0", "0");
    }

    private void meetArguments() {
        String quote = "MEET (x, y: CLOCKS or NONE; REL 0 .. 4 as of when(); n -100 .. 100)";
        story.tell(quote, TWO, "lay 0 1 = 1", "meet 0 0 -1 1 101 = -1", "meet 0 0 -1 1 MOST = -1", "meet 0 0 -1 1 100 = 1", "bound 0 0 -1 0 = 100",
                "meet 0 0 -1 1 99 = 1", "bound 0 0 -1 0 = 99", "meet 0 1 0 3 -101 = -1", "meet 0 1 0 3 LEAST = -1", "meet 0 0 1 3 -100 = 1",
                "bound 0 1 0 0 = 100", "meet 0 0 1 3 -99 = 1", "bound 0 1 0 0 = 99", "meet 0 -1 1 3 -100 = 1", "meet 0 -1 1 3 -101 = -1");
        story.tell(quote, TWO, "lay 0 1 = 1", "meet 0 0 1 -1 3 = -1", "meet 0 0 1 5 3 = -1", "meet 0 0 1 LEAST 3 = -1", "meet 0 0 1 MOST 3 = -1",
                "meet 0 0 1 0 3 = 1", "bound 0 0 1 1 = 0", "meet 0 0 1 4 1 = 1", "bound 0 1 0 0 = -1");
        String none = "NONE: no such ones, x and y one and the same.";
        story.tell(none, TWO, "meet 0 -1 -1 1 0 = -1", "meet 0 0 0 1 0 = -1", "meet 0 1 1 2 0 = -1", "meet 0 2 2 2 0 = -1", "meet 0 -2 0 1 0 = -1",
                "meet 0 0 -2 1 0 = -1", "meet 0 2 0 1 0 = -1", "meet 0 0 2 1 0 = -1", "meet 0 MOST 0 1 0 = -1", "meet 0 0 LEAST 1 0 = -1",
                "meet 0 -1 1 1 0 = 1", "meet 0 1 -1 1 0 = 1", "meet 0 -1 0 1 0 = 1", "meet 0 0 -1 1 0 = 1", "meet 0 0 1 1 0 = 1", "count 6 = 5");
        story.tell(none, "place a;", "meet 0 -1 -1 1 0 = -1", "meet 0 0 -1 1 0 = -1", "meet 0 -1 0 1 0 = -1");
        story.tell(none, FOUR, "meet 0 3 -1 1 0 = 1", "meet 0 4 -1 1 0 = -1", "meet 0 -1 4 1 0 = -1", "meet 0 3 2 1 0 = 1");
        noSuchTable(none, TWO, "meet # 0 1 1 0", "-1");
        // NONE goes ahead of -2, and an EMPTY table is asked no more than that.
        story.tell("Of several answers that hold NONE goes first, then -2, -3 and so on", FOUR,
                Story.together(LOW, "meet 0 0 3 3 1 = -2", "meet 0 0 3 3 101 = -1", "meet 0 0 3 5 1 = -1", "meet 4 0 3 3 1 = -1"));
        story.tell(none, TWO, "lay 0 2 = 1", "meet 0 0 0 0 0 = -1", "meet 0 0 1 0 101 = -1", "meet 0 0 1 0 100 = 0", "count 6 = 2");
    }

    private void meetRels() {
        String quote = "MEET: those times by which X less Y is REL n, too.";
        int[][] held = {{1, 0, 0}, {1, 1, 0}, {0, 1, 0}, {0, 1, 1}, {0, 0, 1}};
        for (int rel = 0; rel < 5; rel++) {
            String[] x = new String[3];
            String[] less = new String[3];
            String[] zero = new String[3];
            for (int k = 0; k < 3; k++) {
                // x is 5/2, 3, 7/2; x - y is -5/2, -2, -3/2; 0 - x is -7/2, -3, -5/2.
                x[k] = "has 0 " + (5 + k) + " 0 0 0 = " + held[rel][k];
                less[k] = "has 0 2 " + (7 - k) + " 0 0 = " + held[rel][k];
                zero[k] = "has 0 " + (7 - k) + " 0 0 0 = " + held[rel][k];
            }
            story.tell(quote, TWO, Story.together("lay 0 1 = 1", "meet 0 0 -1 " + rel + " 3 = 1", x));
            story.tell(quote, TWO, Story.together("lay 0 1 = 1", "meet 0 0 1 " + rel + " -2 = 1", less));
            story.tell(quote, TWO, Story.together("lay 0 1 = 1", "meet 0 -1 0 " + rel + " -3 = 1", zero));
        }
    }

    private void emptied() {
        String quote = "EMPTY: no times do.";
        int[][] pairs = {{1, 3, 1}, {0, 3, 0}, {1, 4, 0}, {0, 4, 0}, {2, 3, 1}, {2, 1, 1}, {2, 0, 0}, {2, 4, 0}, {2, 2, 1}};
        for (int[] p : pairs) {
            story.tell(quote, TWO, "lay 0 1 = 1", "meet 0 0 -1 " + p[0] + " 3 = 1", "meet 0 0 -1 " + p[1] + " 3 = " + p[2], "empty 0 = " + (1 - p[2]));
            story.tell(quote, TWO, "lay 0 1 = 1", "meet 0 0 1 " + p[0] + " 3 = 1", "meet 0 0 1 " + p[1] + " 3 = " + p[2], "empty 0 = " + (1 - p[2]));
        }
        story.tell(quote, TWO, "lay 0 1 = 1", "meet 0 0 -1 1 3 = 1", "meet 0 0 -1 3 4 = 0");
        story.tell("CLOCKS have times, 0 or more, any fractions, and all go alike.", TWO, "lay 0 1 = 1", "meet 0 0 -1 1 0 = 1", "meet 0 0 -1 0 0 = 0");
        story.tell("CLOCKS have times, 0 or more, any fractions, and all go alike.", TWO, "lay 0 1 = 1", "meet 0 0 -1 1 -1 = 0", "lay 0 1 = 1",
                "meet 0 0 -1 3 -1 = 1", "bound 0 -1 0 0 = 0", "meet 0 0 -1 4 -1 = 1", "bound 0 -1 0 0 = 0", "bound 0 -1 0 1 = 1");
        story.tell("CLOCKS have times, 0 or more, any fractions, and all go alike.", TWO, "lay 0 1 = 1", "meet 0 0 -1 4 0 = 1", "meet 0 0 -1 0 1 = 1",
                "has 0 1 0 0 0 = 1", "whole 0 9 = 0", "first 0 0 = -2", "empty 0 = 0");
        // By way of a third clock alone.
        story.tell(quote, FOUR, "lay 0 1 = 1", "meet 0 0 1 1 -1 = 1", "meet 0 1 2 1 -1 = 1", "meet 0 2 0 1 2 = 1", "meet 0 2 0 0 2 = 0");
    }

    private void closed() {
        String quote = "CLOSED: of each pair the BOUND is the least that holds (it always is).";
        story.tell(quote, FOUR, "lay 0 1 = 1", "meet 0 0 1 1 2 = 1", "meet 0 1 2 0 3 = 1", "bound 0 0 2 0 = 5", "bound 0 0 2 1 = 0",
                "meet 0 2 3 1 4 = 1", "bound 0 0 3 0 = 9", "bound 0 0 3 1 = 0", "bound 0 1 3 0 = 7", "meet 0 3 -1 1 1 = 1", "bound 0 0 -1 0 = 10",
                "bound 0 0 -1 1 = 0", "bound 0 2 -1 0 = 5", "bound 0 2 -1 1 = 1", "bound 0 0 1 1 = 1");
        story.tell(quote, FOUR, "lay 0 1 = 1", "meet 0 0 1 1 5 = 1", "meet 0 0 1 0 5 = 1", "bound 0 0 1 1 = 0", "meet 0 0 1 1 5 = 1",
                "bound 0 0 1 1 = 0", "meet 0 0 1 1 4 = 1", "bound 0 0 1 0 = 4", "bound 0 0 1 1 = 1");
    }

    private void pass() {
        story.tell("UP: all times to which time leads from one of the TABLE (itself, too)", TWO, "reset 0 0 2 = 1", "pass 0 0 = 1", "has 0 4 0 0 0 = 1",
                "has 0 3 0 0 0 = 0", "has 0 5 1 0 0 = 1", "has 0 5 0 0 0 = 0", "has 0 4 1 0 0 = 0", "has 0 1004 1000 0 0 = 1", "pass 0 0 = 1", "has 0 4 0 0 0 = 1",
                "lay 0 2 = 1", "pass 0 0 = 0", "empty 0 = 1");
        story.tell("UP: all times to which time leads from one of the TABLE (itself, too)", TWO, "lay 0 1 = 1", "meet 0 0 -1 4 1 = 1", "meet 0 0 -1 0 2 = 1",
                "meet 0 1 -1 1 0 = 1", "pass 0 0 = 1", "has 0 2 0 0 0 = 0", "has 0 3 0 0 0 = 1", "has 0 4 1 0 0 = 1", "has 0 4 0 0 0 = 0", "has 0 4 2 0 0 = 0");
        story.tell("DOWN: all times from which time leads to one of it", TWO, "lay 0 1 = 1", "meet 0 0 -1 2 5 = 1", "meet 0 1 -1 2 2 = 1", "pass 0 1 = 1",
                "has 0 10 4 0 0 = 1", "has 0 11 5 0 0 = 0", "has 0 9 3 0 0 = 1", "has 0 6 0 0 0 = 1", "has 0 5 0 0 0 = 0", "has 0 9 4 0 0 = 0", "pass 0 1 = 1",
                "bound 0 -1 0 0 = -3", "bound 0 -1 1 0 = 0", "bound 0 0 -1 0 = 5", "lay 0 2 = 1", "pass 0 1 = 0");
        story.tell("DOWN: all times from which time leads to one of it", TWO, "lay 0 1 = 1", "meet 0 0 -1 4 5 = 1", "meet 0 1 -1 0 2 = 1", "pass 0 1 = 1",
                "bound 0 -1 0 0 = -3", "bound 0 -1 0 1 = 0", "has 0 6 0 0 0 = 0", "has 0 7 0 0 0 = 1");
        String quote = "UP (what 0), DOWN (1): likewise.";
        story.tell(quote, TWO, "pass 0 -1 = -1", "pass 0 2 = -1", "pass 0 MOST = -1", "pass 0 LEAST = -1", "count 6 = 0");
        noSuchTable(quote, TWO, "pass # 0", "-1");
        noSuchTable(quote, TWO, "pass # 1", "-1");
    }

    private void reset() {
        String quote = "SET to n (0 .. 50): likewise.";
        story.tell(quote, TWO, "reset 0 0 -1 = -1", "reset 0 0 51 = -1", "reset 0 0 MOST = -1", "reset 0 0 LEAST = -1", "count 6 = 0", "reset 0 0 50 = 1",
                "first 0 0 = 50", "reset 0 0 49 = 1", "reset 0 0 1 = 1", "first 0 0 = 1", "reset 0 0 0 = 1", "first 0 0 = 0", "reset 0 2 0 = -1",
                "reset 0 -1 0 = -1", "reset 0 1 0 = 1", "reset 0 MOST 0 = -1", "lay 0 2 = 1", "reset 0 0 51 = -1", "reset 0 0 50 = 0");
        story.tell(quote, "place a;", "reset 0 0 0 = -1");
        noSuchTable(quote, TWO, "reset # 1 50", "-1");
        story.tell("SET: one CLOCK is n, the others as they are.", TWO, "lay 0 1 = 1", "meet 0 1 -1 0 3 = 1", "meet 0 0 1 2 4 = 1", "reset 0 0 1 = 1",
                "has 0 2 5 0 0 = 1", "has 0 2 6 0 0 = 0", "has 0 1 5 0 0 = 0", "has 0 3 5 0 0 = 0", "has 0 2 0 0 0 = 1", "bound 0 1 0 0 = 2", "bound 0 1 0 1 = 0",
                "bound 0 0 1 0 = 1", "bound 0 0 1 1 = 1");
    }

    private void free() {
        String quote = "FREE: one CLOCK is anything.";
        story.tell(quote, TWO, "lay 0 0 = 1", "reset 0 1 3 = 1", "reset 0 0 5 = 1", "free 0 0 = 1", "has 0 0 6 0 0 = 1", "has 0 MOST 6 0 0 = 1", "has 0 10 5 0 0 = 0",
                "has 0 10 7 0 0 = 0", "bound 0 0 -1 0 = 1000", "bound 0 -1 0 0 = 0", "bound 0 -1 0 1 = 1", "bound 0 1 0 0 = 3", "bound 0 0 1 0 = 1000",
                "free 0 1 = 1", "has 0 0 0 0 0 = 1", "lay 0 2 = 1", "free 0 0 = 0");
        story.tell("FREE: likewise.", TWO, "free 0 -1 = -1", "free 0 2 = -1", "free 0 MOST = -1", "free 0 LEAST = -1", "count 6 = 0", "free 0 1 = 1");
        noSuchTable("FREE: likewise.", TWO, "free # 0", "-1");
    }

    private void copyJoinBoth() {
        String copy = "TABLE t is as TABLE of is: likewise (of t).";
        story.tell(copy, TWO, "reset 1 0 7 = 1", "copy 0 1 = 1", "first 0 0 = 7", "first 1 0 = 7", "copy 1 1 = 1", "first 1 0 = 7", "lay 2 2 = 1", "copy 1 2 = 0",
                "empty 1 = 1", "copy 2 0 = 1", "empty 2 = 0", "count 6 = 6", "reset 1 0 9 = 0", "reset 0 0 8 = 1", "first 2 0 = 7");
        noSuchTable(copy, TWO, "copy # 0", "-1");
        noSuchTable(copy, TWO, "copy 0 #", "-1");
        String join = "JOIN: the least TABLE that has all times of both.";
        story.tell(join, TWO, "lay 0 1 = 1", "meet 0 0 -1 0 3 = 1", "lay 1 1 = 1", "meet 1 0 -1 1 3 = 1", "copy 2 0 = 1", "join 2 1 = 1", "bound 2 0 -1 1 = 1",
                "join 0 0 = 1", "bound 0 0 -1 1 = 0", "join 1 0 = 1", "bound 1 0 -1 1 = 1");
        story.tell(join, TWO, "reset 0 0 1 = 1", "reset 1 1 3 = 1", "join 0 1 = 1", "has 0 2 0 0 0 = 1", "has 0 0 6 0 0 = 1", "has 0 1 3 0 0 = 1", "has 0 2 6 0 0 = 1",
                "has 0 3 0 0 0 = 0", "has 0 0 7 0 0 = 0", "bound 0 0 1 0 = 1", "bound 0 1 0 0 = 3");
        story.tell(join, TWO, "lay 0 2 = 1", "join 0 1 = 1", "has 0 0 0 0 0 = 1", "has 0 1 0 0 0 = 0", "lay 0 2 = 1", "lay 1 2 = 1", "join 0 1 = 0", "empty 0 = 1",
                "join 2 1 = 1", "has 2 0 0 0 0 = 1", "count 6 = 6");
        // An EMPTY one adds nothing, whatever it was made of.
        story.tell(join, TWO, "lay 1 1 = 1", "meet 1 0 -1 4 9 = 1", "meet 1 0 -1 0 9 = 0", "join 0 1 = 1", "single 0 = 3", "copy 2 1 = 0", "pass 2 0 = 0", "free 2 0 = 0", "reset 2 1 50 = 0", "join 0 2 = 1", "single 0 = 3",
                "join 2 0 = 1", "single 2 = 3", "has 2 0 0 0 0 = 1");
        noSuchTable("TABLE t is JOIN of both: likewise.", TWO, "join # 0", "-1");
        noSuchTable("TABLE t is JOIN of both: likewise.", TWO, "join 0 #", "-1");
        String both = "TABLE t is MEET with another one: those times that both have: likewise.";
        int[][] pairs = {{1, 3, 1}, {0, 3, 0}, {1, 4, 0}, {0, 4, 0}};
        for (int[] p : pairs) {
            story.tell(both, TWO, "lay 0 1 = 1", "lay 1 1 = 1", "meet 0 0 1 " + p[0] + " 3 = 1", "meet 1 0 1 " + p[1] + " 3 = 1", "both 0 1 = " + p[2],
                    "empty 0 = " + (1 - p[2]), "empty 1 = 0");
        }
        story.tell(both, TWO, "lay 0 1 = 1", "meet 0 0 1 1 2 = 1", "lay 1 1 = 1", "meet 1 1 -1 0 3 = 1", "both 0 1 = 1", "bound 0 0 -1 0 = 5", "bound 0 0 -1 1 = 0",
                "bound 1 0 -1 0 = 1000", "both 0 0 = 1", "lay 2 2 = 1", "both 0 2 = 0", "both 2 1 = 0", "count 6 = 9");
        noSuchTable(both, TWO, "both # 0", "-1");
        noSuchTable(both, TWO, "both 0 #", "-1");
    }

    private void stepStay() {
        String text = "clock x;clock y;place a when x<=5;place b when y<3;edge a b when x>=2 set y 1;edge b a when x<5 set y 3;edge a b set y 3;";
        String step = "STEP by an EDGE: those at which its whens hold, SET by its sets (together), that keep STAY of its end, then UP as far as STAY of its end holds.";
        story.tell(step, text, "reset 0 0 2 = 1", "step 0 0 = 1", "has 0 4 2 0 0 = 1", "has 0 7 5 0 0 = 1", "has 0 8 6 0 0 = 0", "has 0 4 3 0 0 = 0", "has 0 3 1 0 0 = 0",
                "reset 0 0 1 = 1", "step 0 0 = 0", "empty 0 = 1", "step 0 0 = 0");
        story.tell(step, text, "reset 0 0 1 = 1", "step 0 0 = 0");
        // The end's STAY holds behind the sets alone: y is 3 there, which is not below 3.
        story.tell(step, text, "step 0 2 = 0", "undo = 0", "step 0 1 = 1", "has 0 0 6 0 0 = 1", "has 0 10 16 0 0 = 1", "has 0 11 17 0 0 = 0");
        // Nor may time go on until the end's STAY holds: x is 2 there, and would be 3 later.
        story.tell(step, "clock x;place a;place b when x>=3;edge a b;edge a b set x 3;", "reset 0 0 2 = 1", "step 0 0 = 0", "reset 1 0 3 = 1", "step 1 0 = 1", "has 1 6 0 0 0 = 1", "has 1 5 0 0 0 = 0", "step 2 1 = 1",
                "bound 2 -1 0 0 = -3");
        // Neither is the STAY of where it begins asked, nor may time go on ahead of it.
        story.tell("STEP by an EDGE (whichever PLACE): likewise.", text, "reset 0 0 6 = 1", "step 0 0 = 1", "has 0 12 2 0 0 = 1", "reset 1 0 4 = 1", "step 1 1 = 1",
                "reset 2 0 5 = 1", "step 2 1 = 0", "step 3 -1 = -1", "step 3 3 = -1", "step 3 MOST = -1", "step 3 LEAST = -1", "count 6 = 6");
        noSuchTable("STEP by an EDGE (whichever PLACE): likewise.", text, "step # 1", "-1");
        String stay = "WAIT in a PLACE: those that keep STAY, UP as far as it holds.";
        story.tell(stay, text, "reset 0 0 5 = 1", "stay 0 0 = 1", "single 0 = 3", "reset 0 0 6 = 1", "stay 0 0 = 0", "reset 1 1 2 = 1", "stay 1 1 = 1",
                "has 1 0 4 0 0 = 1", "has 1 1 5 0 0 = 1", "has 1 2 6 0 0 = 0", "reset 2 1 3 = 1", "stay 2 1 = 0");
        story.tell(stay, "clock x;place a when x>=2 when x<4;", "stay 0 0 = 0", "reset 1 0 2 = 1", "stay 1 0 = 1", "has 1 4 0 0 0 = 1", "has 1 7 0 0 0 = 1",
                "has 1 8 0 0 0 = 0", "lay 2 1 = 1", "stay 2 0 = 1", "bound 2 -1 0 0 = -2", "reset 3 0 1 = 1", "stay 3 0 = 0");
        story.tell("WAIT in a PLACE: likewise.", text, "stay 0 -1 = -1", "stay 0 2 = -1", "stay 0 MOST = -1", "stay 0 LEAST = -1", "stay 0 1 = 1", "lay 0 2 = 1", "stay 0 0 = 0");
        noSuchTable("WAIT in a PLACE: likewise.", text, "stay # 0", "-1");
    }

    /** A set doesn't see what another set of the same edge did, in either order. */
    private void stepsSetsTogether() {
        String step = "SET by its sets (together)";
        story.tell(step, "clock x;clock y;place a when x<=0;edge a a when x=0 set x 0 set y 7;edge a a set y 7 set x 0;", "reset 0 1 3 = 1", "step 0 0 = 1",
                "has 0 0 14 0 0 = 1", "single 0 = 3", "reset 1 0 9 = 1", "step 1 1 = 1", "has 1 0 14 0 0 = 1", "single 1 = 3", "within 0 1 = 1", "within 1 0 = 1");
    }

    /** Each call changes the table that it names, from what that was, whichever one was changed ahead of it. */
    private void ownTable() {
        String text = "clock x;clock y;place a when x<=5;edge a a when x>=3;";
        String[] calls = {"meet 0 0 -1 1 9 = 1", "pass 0 0 = 1", "pass 0 1 = 1", "reset 0 1 2 = 1", "free 0 1 = 1", "join 0 0 = 1", "both 0 0 = 1", "copy 0 0 = 1", "step 0 0 = 1", "stay 0 0 = 1",
            "rough 0 = 1", "back 0 0 = 1"};
        int[] single = {3, 0, 0, 3, 1, 3, 3, 3, 0, 0, 3, 3};
        int[] least = {3, 3, 2, 3, 3, 3, 3, 3, 3, 3, 3, 3};
        for (int k = 0; k < calls.length; k++) {
            story.tell("TABLES are numbered 0 .. 3", text, "reset 0 0 3 = 1", "reset 0 1 1 = 1", "reset 1 0 40 = 1", calls[k], "single 0 = " + single[k], "bound 0 -1 0 0 = " + -least[k], "single 1 = 3",
                    "bound 1 -1 0 0 = -40", "single 2 = 3", "single 3 = 3", "undo = 3", "single 0 = 3", "bound 0 -1 0 0 = -3", "bound 0 -1 1 0 = -1", "bound 1 -1 0 0 = -40");
        }
    }

    private void great() {
        String quote = "GREAT of a CLOCK: the greatest N of all whens, sets with it (0 without; ZERO: 0).";
        story.tell(quote, "clock x;clock y;clock z;clock w;place a when x<=7 when y<0;edge a a when x>6 when z>=50 set y 1;edge a a set x 8 set z 49;", "great 0 = 8",
                "great 1 = 1", "great 2 = 50", "great 3 = 0");
        story.tell(quote, "clock x;clock y;clock z;place a when x<=7;place b when y=9;edge a a when x>6 set y 8;edge a b when z<3;", "great 0 = 7", "great 1 = 9", "great 2 = 3");
        story.tell("GREAT; NONE: no such CLOCK.", "clock x;clock y;place a;", "great 0 = 0", "great 1 = 0", "great 2 = -1", "great -1 = -1", "great MOST = -1", "great LEAST = -1");
        story.tell("GREAT; NONE: no such CLOCK.", "place a;", "great 0 = -1");
    }

    private void rough() {
        String text = "clock x;clock y;clock z;place a when x<=5 when y<3;";
        String above = "ROUGH: each BOUND of X, Y that is above GREAT of X goes (there is none then)";
        int[][] upper = {{1, 5, 5, 1}, {0, 5, 5, 0}, {0, 6, 1000, 0}, {1, 6, 1000, 0}, {1, 4, 4, 1}};
        for (int[] u : upper) {
            story.tell(above, text, "lay 0 1 = 1", "meet 0 0 -1 " + u[0] + " " + u[1] + " = 1", "rough 0 = 1", "bound 0 0 -1 0 = " + u[2], "bound 0 0 -1 1 = " + u[3]);
            story.tell(above, text, "lay 0 1 = 1", "meet 0 0 1 " + u[0] + " " + u[1] + " = 1", "rough 0 = 1", "bound 0 0 1 0 = " + u[2], "bound 0 0 1 1 = " + u[3]);
        }
        // GREAT of X counts there, not of Y: y - x up to 3, x - y up to 5.
        story.tell(above, text, "lay 0 1 = 1", "meet 0 1 0 1 3 = 1", "rough 0 = 1", "bound 0 1 0 0 = 3", "meet 0 1 0 1 3 = 1", "lay 0 1 = 1", "meet 0 1 0 1 4 = 1", "rough 0 = 1",
                "bound 0 1 0 0 = 1000");
        story.tell(above, text, "lay 0 1 = 1", "meet 0 2 -1 1 0 = 1", "rough 0 = 1", "bound 0 2 -1 0 = 0", "lay 0 1 = 1", "meet 0 2 -1 0 1 = 1", "rough 0 = 1",
                "bound 0 2 -1 0 = 1000", "bound 0 -1 2 0 = 0", "bound 0 -1 2 1 = 1");
        String below = "each that is below 0 less GREAT of Y becomes that number, not reached; then CLOSED.";
        int[][] lower = {{3, 5, -5, 1}, {4, 5, -5, 0}, {3, 6, -5, 0}, {4, 6, -5, 0}, {3, 4, -4, 1}, {4, 4, -4, 0}};
        for (int[] l : lower) {
            story.tell(below, text, "lay 0 1 = 1", "meet 0 0 -1 " + l[0] + " " + l[1] + " = 1", "rough 0 = 1", "bound 0 -1 0 0 = " + l[2], "bound 0 -1 0 1 = " + l[3]);
            story.tell(below, text, "lay 0 1 = 1", "meet 0 0 1 " + l[0] + " " + l[1] + " = 1", "rough 0 = 1", "bound 0 1 0 0 = " + l[2], "bound 0 1 0 1 = " + l[3]);
        }
        story.tell(below, text, "lay 0 1 = 1", "meet 0 2 -1 4 0 = 1", "rough 0 = 1", "bound 0 -1 2 0 = 0", "bound 0 -1 2 1 = 0", "meet 0 2 -1 3 1 = 1", "bound 0 -1 2 0 = -1",
                "rough 0 = 1", "bound 0 -1 2 0 = 0", "bound 0 -1 2 1 = 0");
        // What goes comes back as far as others tell it: x <= 8 goes, x - y <= 5 and y < 3 stay.
        story.tell(below, text, "lay 0 1 = 1", "meet 0 0 1 1 5 = 1", "meet 0 1 -1 0 3 = 1", "bound 0 0 -1 0 = 8", "rough 0 = 1", "bound 0 0 -1 0 = 8", "bound 0 0 -1 1 = 0");
        story.tell("ROUGH: likewise.", text, "lay 0 2 = 1", "rough 0 = 0", "rough 1 = 1", "within 1 2 = 1", "within 2 1 = 1", "count 6 = 3");
        noSuchTable("ROUGH: likewise.", text, "rough #", "-1");
    }

    private void take() {
        String text = "clock x;place a when x<=3;place b;edge a b set x 2;";
        String quote = "TABLE t is as that of a NODE: likewise.";
        story.tell(quote, text, "nodes = 2", "take 0 0 = 1", "bound 0 0 -1 0 = 3", "take 3 1 = 1", "bound 3 -1 0 0 = -2", "take 0 2 = -1", "take 0 -1 = -1", "take 0 MOST = -1",
                "take 0 LEAST = -1", "count 6 = 2", "pass 0 0 = 1", "nodeBound 0 0 -1 0 = 3", "take 0 0 = 1", "take 0 1 = 1");
        noSuchTable(quote, text, "take # 1", "-1");
        story.tell(quote, "clock x;place a when x>0;", "nodes = 0", "take 0 0 = -1");
        story.tell(quote, "place a;", "lay 0 2 = 1", "take 0 0 = 1", "empty 0 = 0", "take 0 1 = -1");
    }

    private void beyond() {
        String quote = "A TABLE in which a BOUND would be beyond 400 (either way) can't come by call: -2 then, and nothing happens (not of an EMPTY one).";
        story.tell(quote, FOUR, Story.together(LOW, "meet 0 0 3 3 1 = -2", "meet 0 0 3 2 1 = -2", "meet 0 0 3 4 1 = -2", "meet 0 3 0 1 -1 = -2", "meet 0 3 0 0 -1 = -2",
                "count 6 = 6", "bound 0 -1 0 0 = 0", "bound 0 -1 3 0 = -400", "meet 0 0 3 3 0 = 1", "bound 0 -1 0 0 = -400", "bound 0 -1 0 1 = 1", "meet 0 0 3 4 0 = 1",
                "bound 0 -1 0 0 = -400", "bound 0 -1 0 1 = 0", "count 6 = 8"));
        story.tell(quote, FOUR, Story.together(LOW, "meet 0 0 3 3 -1 = 1", "bound 0 -1 0 0 = -399", "meet 0 3 -1 4 100 = 1", "meet 0 3 -1 0 100 = 0", "empty 0 = 1",
                "meet 0 0 3 3 1 = 0"));
        story.tell(quote, FOUR, Story.together(HIGH, "meet 0 0 3 1 1 = -2", "meet 0 0 3 0 1 = -2", "meet 0 3 0 3 -1 = -2", "count 6 = 6", "bound 0 0 -1 0 = 1000",
                "meet 0 0 3 1 0 = 1", "bound 0 0 -1 0 = 400", "bound 0 0 -1 1 = 1"));
        story.tell(quote, FOUR, Story.together(HIGH, "meet 0 0 3 2 1 = -2", "meet 0 0 3 0 0 = 1", "bound 0 0 -1 0 = 400", "bound 0 0 -1 1 = 0"));
        story.tell(quote, FOUR, Story.together(HIGH, "meet 0 0 3 1 -1 = 1", "bound 0 0 -1 0 = 399"));
        // Of two clocks, either way: d - b <= 300 and b - a <= 100 are 400 together, b - a <= 101 one more.
        story.tell(quote, FOUR, "lay 0 1 = 1", "meet 0 3 2 1 100 = 1", "meet 0 2 1 1 100 = 1", "meet 0 1 -1 1 0 = 1", "meet 0 -1 0 1 0 = 1", "bound 0 3 0 0 = 200",
                "meet 0 0 1 3 -100 = 1", "bound 0 3 0 0 = 200");
        // Of an EMPTY one nothing is beyond: a >= 100 above, d < 100.
        story.tell(quote, FOUR, Story.together(LOW, "meet 0 0 -1 3 100 = 1", "meet 0 3 0 1 -100 = -2", "meet 0 3 -1 1 100 = 0", "empty 0 = 1", "undo = 7", "empty 0 = 0",
                "bound 0 -1 3 0 = -400"));
    }

    /** Table 0: b - a >= 400, both going up. */
    private static final String[] FAR = {"lay 0 0 = 1", "pass 0 0 = 1", "meet 0 0 -1 3 100 = 1", "reset 0 0 0 = 1", "pass 0 0 = 1", "meet 0 0 -1 3 100 = 1",
        "reset 0 0 0 = 1", "pass 0 0 = 1", "meet 0 0 -1 3 100 = 1", "reset 0 0 0 = 1", "pass 0 0 = 1", "meet 0 0 -1 3 100 = 1", "reset 0 0 0 = 1", "pass 0 0 = 1",
        "bound 0 0 1 0 = -400"};

    private void beyondByOthers() {
        String quote = "A TABLE in which a BOUND would be beyond 400 (either way) can't come by call: -2 then, and nothing happens (not of an EMPTY one).";
        String text = "clock a;clock b;place p;place q when a>=1;place r when a>0;edge p p when a>=1;edge p p when a>0;edge p q;edge p r;edge p p when a>=1 set b 0;"
                + "edge p p when a>=1 set b 0 set a 0;edge p p when a>=1 when b<50;";
        story.tell(quote, text, Story.together(FAR, "lay 1 1 = 1", "meet 1 0 -1 3 1 = 1", "both 0 1 = -2", "both 1 0 = -2", "touch 0 1 = 1", "count 6 = 16", "lay 1 1 = 1",
                "meet 1 0 -1 4 0 = 1", "both 0 1 = 1", "bound 0 -1 1 0 = -400", "bound 0 -1 1 1 = 0"));
        story.tell(quote, text, Story.together(FAR, "lay 1 1 = 1", "meet 1 0 -1 3 1 = 1", "meet 1 1 -1 1 100 = 1", "both 0 1 = 0", "touch 1 0 = 0"));
        story.tell(quote, text, Story.together(FAR, "step 0 0 = -2", "step 0 2 = -2", "stay 0 1 = -2", "back 0 0 = -2", "back 0 2 = -2", "count 6 = 14", "bound 0 -1 1 0 = -400",
                "bound 0 -1 1 1 = 1", "step 0 1 = 1", "bound 0 -1 1 0 = -400", "bound 0 -1 1 1 = 0"));
        story.tell(quote, text, Story.together(FAR, "step 0 3 = 1", "bound 0 -1 1 0 = -400", "bound 0 -1 1 1 = 0", "undo = 14", "stay 0 2 = 1", "bound 0 -1 1 0 = -400", "bound 0 -1 1 1 = 0"));
        story.tell(quote, text, Story.together(FAR, "back 0 1 = 1", "bound 0 -1 1 1 = 0", "step 0 6 = 0", "empty 0 = 1"));
        story.tell(quote, text, Story.together(FAR, "back 0 3 = 1", "bound 0 -1 1 0 = -400", "bound 0 -1 1 1 = 0"));
        // What comes is asked, not what was there on the way to it: b, beyond 400 ahead of the sets, is 0 behind them.
        story.tell(quote, text, Story.together(FAR, "step 0 4 = 1", "bound 0 -1 0 0 = -1", "bound 0 -1 1 0 = 0", "undo = 14", "step 0 5 = 1"));
        // NONE goes ahead of -2.
        story.tell("Of several answers that hold NONE goes first, then -2, -3 and so on", text,
                Story.together(FAR, "step 4 0 = -1", "step 0 7 = -1", "stay 0 3 = -1", "back 0 7 = -1", "both 0 4 = -1"));
    }

    /** Whatever can't make a bound greater comes at 400, too. */
    private void notBeyond() {
        String quote = "A TABLE in which a BOUND would be beyond 400 (either way) can't come by call: -2 then, and nothing happens (not of an EMPTY one).";
        String text = "clock a;clock b;place p;edge p p;";
        story.tell(quote, text, Story.together(FAR, "copy 1 0 = 1", "join 1 0 = 1", "join 0 2 = 1", "copy 0 1 = 1", "pass 0 1 = 1", "bound 0 -1 1 0 = -400", "reset 0 0 50 = 1",
                "bound 0 0 1 0 = -350", "free 0 0 = 1", "step 1 0 = 1", "back 1 0 = 1", "stay 1 0 = 1", "rough 1 = 1", "take 1 0 = 1", "both 0 0 = 1", "count 6 = 16"));
        story.tell(quote, FOUR, Story.together(HIGH, "pass 0 1 = 1", "bound 0 3 -1 0 = 400", "reset 0 0 50 = 1", "bound 0 3 0 0 = 350", "reset 0 0 0 = 1", "bound 0 3 0 0 = 400",
                "pass 0 0 = 1", "bound 0 3 0 0 = 400", "bound 0 3 -1 0 = 1000", "meet 0 0 -1 1 0 = 1", "meet 0 0 -1 3 0 = 1", "pass 0 0 = 1", "meet 0 0 -1 1 1 = -2",
                "meet 0 0 -1 0 1 = -2", "meet 0 0 -1 0 0 = 0", "undo = 13", "meet 0 0 -1 1 0 = 1", "bound 0 3 -1 0 = 400"));
    }

    private void undo() {
        String quote = "What changes a TABLE or the TRACE can be undone (also where it is as it was), the latest first, 16 at most (the eldest are forgotten).";
        String text = "clock x;clock y;place a;place b;edge a b;edge b a;";
        for (int many = 14; many <= 19; many++) {
            String[] made = new String[many];
            String[] undone = new String[2 * Math.min(many, 16) + 3];
            for (int k = 0; k < many; k++) {
                made[k] = "reset 0 0 " + (k + 1) + " = 1";
            }
            int left = Math.min(many, 16);
            undone[0] = "count 6 = " + left;
            int at = 1;
            for (int k = many - 1; left > 0; k--) {
                left--;
                undone[at] = "undo = " + left;
                undone[at + 1] = "first 0 0 = " + k;
                at += 2;
            }
            undone[at] = "undo = -1";
            undone[at + 1] = "first 0 0 = " + (many - Math.min(many, 16));
            story.tell(quote, text, Story.together(made, undone));
        }
        // Each call that changes, where all stays as it was.
        story.tell(quote, text, "lay 0 0 = 1", "meet 0 0 -1 1 0 = 1", "reset 0 0 0 = 1", "copy 0 1 = 1", "copy 0 0 = 1", "join 0 0 = 1", "both 0 1 = 1", "lead -1 = 0",
                "lead 0 = 0", "rough 0 = 1", "pass 0 1 = 1", "count 6 = 11");
        story.tell(quote, text, "lay 1 2 = 1", "lay 1 2 = 1", "meet 1 0 -1 1 0 = 0", "pass 1 0 = 0", "reset 1 0 0 = 0", "free 1 0 = 0", "copy 1 1 = 0", "join 1 1 = 0", "both 1 0 = 0",
                "step 1 0 = 0", "stay 1 0 = 0", "rough 1 = 0", "back 1 0 = 0", "count 6 = 13", "undo = 12", "empty 1 = 1");
        story.tell(quote, text, "add 0 = 1", "lay 0 1 = 1", "add 1 = 2", "lead 1 = 1", "lay 1 2 = 1", "lead -1 = 0", "undo = 5", "trace -1 = 1", "undo = 4", "empty 1 = 0",
                "undo = 3", "trace -1 = 2", "trace 1 = 1", "undo = 2", "trace -1 = 1", "has 0 9 0 0 0 = 1", "undo = 1", "has 0 9 0 0 0 = 0", "trace 0 = 0", "undo = 0",
                "trace -1 = 0", "undo = -1");
        // An undo is nothing that could be undone, and what was undone is gone.
        story.tell("The latest that can be undone is undone: how many more can be; NONE: none.", text, "undo = -1", "lay 0 1 = 1", "undo = 0", "undo = -1", "lay 0 1 = 1", "lay 0 2 = 1",
                "undo = 1", "lay 1 2 = 1", "undo = 1", "empty 1 = 0", "has 0 9 9 0 0 = 1", "undo = 0", "has 0 9 9 0 0 = 0", "undo = -1");
        story.tell("The latest that can be undone is undone: how many more can be; NONE: none.", null, "undo = -1", "lead -1 = 0", "lay 0 2 = 1", "undo = 1", "undo = 0", "undo = -1");
        // The forgotten ones stay forgotten, however many are undone and made anew.
        story.tell(quote, text, Story.together(Story.times("lay 0 1 = 1\n", 17).trim().split("\n"), "undo = 15", "undo = 14", "lay 0 2 = 1", "lay 0 1 = 1", "count 6 = 16",
                "lay 0 1 = 1", "count 6 = 16", "undo = 15"));
    }

    private void bound() {
        String quote = "1000: there is none (what 0; 0: what 1); -1000: it is EMPTY; -2000: no such ones, one and the same.";
        story.tell(quote, TWO, "bound 0 0 1 0 = 0", "bound 0 0 1 1 = 1", "bound 0 0 1 -1 = -2000", "bound 0 0 1 2 = -2000", "bound 0 0 1 MOST = -2000", "bound 0 0 0 0 = -2000",
                "bound 0 1 1 0 = -2000", "bound 0 -1 -1 0 = -2000", "bound 0 2 0 0 = -2000", "bound 0 0 2 0 = -2000", "bound 0 -2 0 0 = -2000", "bound 0 0 -2 0 = -2000",
                "bound 0 MOST 0 0 = -2000", "bound 0 0 LEAST 0 = -2000", "bound 0 -1 1 0 = 0", "bound 0 1 -1 1 = 1", "lay 0 1 = 1", "bound 0 0 -1 0 = 1000",
                "bound 0 0 -1 1 = 0", "bound 0 0 1 0 = 1000", "bound 0 0 1 1 = 0", "bound 0 -1 0 0 = 0", "bound 0 -1 0 1 = 1", "lay 0 2 = 1", "bound 0 0 1 0 = -1000",
                "bound 0 0 1 1 = -1000", "bound 0 -1 0 0 = -1000", "bound 0 1 1 0 = -2000", "bound 0 0 1 2 = -2000", "bound 0 2 0 0 = -2000");
        noSuchTable(quote, TWO, "bound # 0 1 0", "-2000");
        story.tell(quote, FOUR, "bound 0 3 -1 0 = 0", "bound 0 4 -1 0 = -2000", "bound 0 -1 4 0 = -2000", "bound 0 2 3 1 = 1");
        story.tell("a number, reached or not (then only what is less), or none", TWO, "lay 0 1 = 1", "meet 0 0 1 0 3 = 1", "bound 0 0 1 0 = 3", "bound 0 0 1 1 = 0",
                "has 0 5 0 0 0 = 1", "has 0 6 0 0 0 = 0", "meet 0 1 0 1 -2 = 1", "bound 0 1 0 0 = -2", "bound 0 1 0 1 = 1", "has 0 4 0 0 0 = 1", "has 0 3 0 0 0 = 0",
                "bound 0 1 -1 0 = 1000");
    }

    private void emptyWithinTouch() {
        story.tell("Whether it is EMPTY (1, 0); NONE: no such one.", TWO, "empty 3 = 0", "lay 3 2 = 1", "empty 3 = 1", "lay 3 1 = 1", "empty 3 = 0");
        noSuchTable("Whether it is EMPTY (1, 0); NONE: no such one.", TWO, "empty #", "-1");
        String within = "Whether TABLE t has all times of TABLE of (1, 0); NONE: no such ones.";
        story.tell(within, TWO, "lay 0 1 = 1", "meet 0 0 -1 0 3 = 1", "lay 1 1 = 1", "meet 1 0 -1 1 3 = 1", "within 0 1 = 0", "within 1 0 = 1", "within 0 0 = 1", "within 1 1 = 1",
                "meet 1 0 -1 0 3 = 1", "within 0 1 = 1", "within 1 0 = 1", "meet 1 0 1 4 -9 = 1", "within 0 1 = 1", "within 1 0 = 0", "within 0 2 = 1", "within 2 0 = 0");
        story.tell(within, TWO, "lay 0 2 = 1", "lay 1 2 = 1", "within 0 1 = 1", "within 0 0 = 1", "within 2 0 = 1", "within 0 2 = 0");
        // A single clock, by each of its two bounds alone.
        story.tell(within, "clock x;place a;", "lay 0 1 = 1", "meet 0 0 -1 1 3 = 1", "lay 1 1 = 1", "meet 1 0 -1 1 4 = 1", "within 0 1 = 0", "within 1 0 = 1", "meet 1 0 -1 1 3 = 1", "within 0 1 = 1", "meet 0 0 -1 3 1 = 1",
                "within 0 1 = 0", "within 1 0 = 1", "meet 1 0 -1 4 1 = 1", "within 0 1 = 1", "within 1 0 = 0");
        noSuchTable(within, TWO, "within # 0", "-1");
        noSuchTable(within, TWO, "within 0 #", "-1");
        String touch = "Whether two TABLES have times in common (1, 0); NONE: no such ones.";
        int[][] pairs = {{1, 3, 1}, {0, 3, 0}, {1, 4, 0}, {0, 4, 0}};
        for (int[] p : pairs) {
            story.tell(touch, TWO, "lay 0 1 = 1", "lay 1 1 = 1", "meet 0 0 1 " + p[0] + " 3 = 1", "meet 1 0 1 " + p[1] + " 3 = 1", "touch 0 1 = " + p[2], "touch 1 0 = " + p[2],
                    "touch 0 0 = 1");
        }
        story.tell(touch, TWO, "lay 0 2 = 1", "touch 0 0 = 0", "touch 0 1 = 0", "touch 1 0 = 0", "touch 1 1 = 1", "touch 1 2 = 1");
        // No single pair of bounds says so, but three together: x - y < 0, y <= 2, x >= 2.
        story.tell(touch, TWO, "lay 0 1 = 1", "meet 0 0 1 0 0 = 1", "lay 1 1 = 1", "meet 1 1 -1 1 2 = 1", "meet 1 0 -1 3 2 = 1", "touch 0 1 = 0", "meet 0 0 -1 1 2 = 1", "touch 0 1 = 0");
        noSuchTable(touch, TWO, "touch # 0", "-1");
        noSuchTable(touch, TWO, "touch 0 #", "-1");
    }

    private void has() {
        String quote = "Whether a TABLE has the times a, b, c, d, in halves (those of CLOCKS that there are; 1, 0); NONE: no such TABLE, one of the four is below 0.";
        story.tell(quote, TWO, "has 0 0 0 0 0 = 1", "has 0 0 0 MOST MOST = 1", "has 0 0 1 0 0 = 0", "has 0 1 0 0 0 = 0", "has 0 -1 0 0 0 = -1", "has 0 0 -1 0 0 = -1",
                "has 0 0 0 -1 0 = -1", "has 0 0 0 0 -1 = -1", "has 0 LEAST 0 0 0 = -1", "has 0 0 0 0 LEAST = -1", "has 0 MOST 0 0 0 = 0", "lay 0 1 = 1",
                "has 0 MOST 0 0 0 = 1", "has 0 0 MOST 0 0 = 1", "has 0 MOST MOST 0 0 = 1", "meet 0 0 1 1 100 = 1", "has 0 200 0 0 0 = 1", "has 0 201 0 0 0 = 0",
                "has 0 MOST 0 0 0 = 0", "has 0 MOST MOST 0 0 = 1", "has 0 MOST 2147483447 0 0 = 1", "has 0 MOST 2147483446 0 0 = 0", "lay 0 2 = 1", "has 0 0 0 0 0 = 0",
                "has 0 0 0 0 -1 = -1");
        story.tell(quote, "place a;", "has 0 1 2 3 4 = 1", "has 0 1 2 3 -4 = -1", "lay 0 2 = 1", "has 0 1 2 3 4 = 0");
        story.tell(quote, FOUR, "has 0 0 0 0 1 = 0", "has 0 0 0 1 0 = 0", "reset 0 3 2 = 1", "has 0 0 0 0 4 = 1", "has 0 0 0 0 3 = 0", "has 0 0 0 0 5 = 0");
        noSuchTable(quote, TWO, "has # 0 0 0 0", "-1");
    }

    private void pairs() {
        String quote = "How many pairs (ZERO, too, in each order) have a BOUND (what 0), one that is reached (1), one that doesn't follow from two others, by no third clock";
        story.tell(quote, "place a;", "pairs 0 0 = 0", "pairs 0 1 = 0", "pairs 0 2 = 0", "lay 0 2 = 1", "pairs 0 0 = -2");
        story.tell(quote, "clock x;place a;", "pairs 0 0 = 2", "pairs 0 1 = 2", "pairs 0 2 = 2", "lay 0 1 = 1", "pairs 0 0 = 1", "pairs 0 1 = 1", "pairs 0 2 = 1",
                "meet 0 0 -1 4 1 = 1", "pairs 0 0 = 1", "pairs 0 1 = 0", "pairs 0 2 = 1");
        story.tell(quote, FOUR, "pairs 0 0 = 20", "pairs 0 1 = 20", "pairs 0 2 = 0", "lay 0 1 = 1", "pairs 0 0 = 4", "pairs 0 1 = 4", "pairs 0 2 = 4");
        String follow = "(2: there is no Z so that the BOUNDS of X, Z and Z, Y together are as little)";
        // x - y follows from x <= 4 and 0 - y <= 0; not if it is stricter, by its number or by not being reached.
        story.tell(follow, TWO, "lay 0 1 = 1", "meet 0 0 -1 1 4 = 1", "pairs 0 0 = 4", "pairs 0 2 = 3", "meet 0 0 1 1 4 = 1", "pairs 0 2 = 3", "meet 0 0 1 0 4 = 1", "pairs 0 2 = 4",
                "meet 0 0 1 1 3 = 1", "pairs 0 2 = 4");
        story.tell("-2: it is EMPTY; NONE: no such ones.", TWO, "lay 0 2 = 1", "pairs 0 0 = -2", "pairs 0 1 = -2", "pairs 0 2 = -2", "pairs 0 3 = -1", "pairs 0 -1 = -1",
                "pairs 1 3 = -1", "pairs 1 -1 = -1", "pairs 1 MOST = -1", "pairs 1 LEAST = -1", "pairs 1 2 = 0");
        noSuchTable("-2: it is EMPTY; NONE: no such ones.", TWO, "pairs # 0", "-1");
    }

    private void whole() {
        String quote = "How many whole times (all CLOCKS 0 .. m, m 0 .. 9) a TABLE has; NONE: no such ones.";
        story.tell(quote, TWO, "whole 0 -1 = -1", "whole 0 10 = -1", "whole 0 MOST = -1", "whole 0 LEAST = -1", "whole 0 0 = 1", "whole 0 9 = 1", "lay 0 1 = 1", "whole 0 0 = 1",
                "whole 0 1 = 4", "whole 0 8 = 81", "whole 0 9 = 100", "meet 0 0 -1 3 9 = 1", "whole 0 8 = 0", "whole 0 9 = 10", "meet 0 0 -1 4 9 = 1", "whole 0 9 = 0",
                "empty 0 = 0", "lay 0 2 = 1", "whole 0 9 = 0", "whole 0 10 = -1");
        story.tell(quote, TWO, "lay 0 1 = 1", "meet 0 0 1 0 1 = 1", "meet 0 0 1 4 0 = 1", "whole 0 9 = 0", "lay 0 1 = 1", "meet 0 0 1 1 1 = 1", "meet 0 0 1 4 0 = 1", "whole 0 9 = 9",
                "meet 0 1 -1 4 0 = 1", "whole 0 9 = 8", "meet 0 1 -1 0 8 = 1", "whole 0 9 = 7", "whole 0 1 = 0", "whole 0 2 = 1");
        story.tell(quote, FOUR, "lay 0 1 = 1", "whole 0 9 = 10000", "whole 0 1 = 16", "meet 0 0 1 2 0 = 1", "whole 0 9 = 1000", "meet 0 2 3 2 0 = 1", "whole 0 9 = 100",
                "meet 0 0 2 0 0 = 1", "whole 0 9 = 45");
        story.tell(quote, "place a;", "whole 0 0 = 1", "whole 0 9 = 1", "whole 0 10 = -1", "lay 0 2 = 1", "whole 0 0 = 0");
        noSuchTable(quote, TWO, "whole # 9", "-1");
    }

    private void first() {
        String quote = "The least whole times that a TABLE has (the first CLOCK least, then the second, and so on), of CLOCK x; -2: it has none with all up to 100; NONE: no such ones.";
        story.tell(quote, TWO, "lay 0 1 = 1", "meet 0 0 -1 3 100 = 1", "first 0 0 = 100", "first 0 1 = 0", "meet 0 0 1 1 0 = 1", "first 0 1 = 100", "meet 0 0 1 0 0 = 1",
                "first 0 0 = -2", "first 0 1 = -2");
        story.tell(quote, TWO, "lay 0 1 = 1", "meet 0 0 -1 4 99 = 1", "first 0 0 = 100", "meet 0 0 -1 4 100 = 1", "first 0 0 = -2", "first 0 1 = -2", "first 0 2 = -1",
                "first 0 -1 = -1", "first 0 MOST = -1", "lay 0 2 = 1", "first 0 0 = -2", "first 0 2 = -1");
        story.tell(quote, TWO, "lay 0 1 = 1", "meet 0 0 -1 4 3 = 1", "meet 0 0 -1 0 4 = 1", "first 0 0 = -2", "empty 0 = 0", "lay 0 1 = 1", "meet 0 0 -1 4 3 = 1",
                "meet 0 0 -1 1 4 = 1", "first 0 0 = 4", "first 0 1 = 0", "meet 0 1 0 3 2 = 1", "first 0 1 = 6");
        // Each clock alone would have a whole time, but not all together: y = x + 1/2 there.
        story.tell(quote, TWO, "lay 0 1 = 1", "meet 0 1 0 4 0 = 1", "meet 0 1 0 0 1 = 1", "first 0 0 = -2", "first 0 1 = -2");
        story.tell(quote, "clock x;place a;", "first 0 0 = 0", "first 0 1 = -1");
        noSuchTable(quote, TWO, "first # 1", "-1");
    }

    private void width() {
        String quote = "How much X less Y may differ in a TABLE (BOUND of X, Y and that of Y, X together), what as of bound(); 1000, -1000, -2000 likewise.";
        story.tell(quote, TWO, "width 0 0 1 0 = 0", "width 0 0 1 1 = 1", "width 0 0 1 2 = -2000", "width 0 0 1 -1 = -2000", "width 0 0 0 0 = -2000", "width 0 -1 -1 0 = -2000",
                "width 0 2 0 0 = -2000", "width 0 0 -2 0 = -2000", "width 0 0 2 0 = -2000", "lay 0 1 = 1", "width 0 0 1 0 = 1000", "width 0 0 1 1 = 0",
                "meet 0 0 1 1 5 = 1", "width 0 0 1 0 = 1000", "width 0 1 0 0 = 1000", "meet 0 0 1 3 2 = 1", "width 0 0 1 0 = 3", "width 0 0 1 1 = 1", "meet 0 0 1 0 5 = 1",
                "width 0 0 1 0 = 3", "width 0 0 1 1 = 0", "meet 0 0 1 4 2 = 1", "width 0 1 0 0 = 3", "width 0 1 0 1 = 0", "width 0 0 -1 0 = 1000", "lay 0 2 = 1",
                "width 0 0 1 0 = -1000", "width 0 0 1 1 = -1000", "width 0 1 1 0 = -2000", "width 0 0 1 2 = -2000");
        // As great as it can be: 400 either way.
        story.tell(quote, FOUR, "lay 0 1 = 1", "meet 0 0 1 1 100 = 1", "meet 0 1 2 1 100 = 1", "meet 0 2 3 1 100 = 1", "bound 0 0 3 0 = 300", "meet 0 3 2 1 100 = 1", "meet 0 2 1 1 100 = 1",
                "meet 0 1 0 1 100 = 1", "width 0 0 3 0 = 600", "width 0 0 3 1 = 1");
        noSuchTable(quote, TWO, "width # 0 1 0", "-2000");
    }

    private void back() {
        String text = "clock x;clock y;place a when x<=9;place b when y<3;edge a b when x>=2 set y 1;edge a b set y 3;edge a b set y 2 set x 0;edge a b;";
        String quote = "TABLE t is all times at which an EDGE can be taken (its whens hold, and STAY of its end behind the sets) so that the times behind the sets are of TABLE t as it was: as meet().";
        story.tell(quote, text, "lay 0 1 = 1", "meet 0 0 1 1 4 = 1", "back 0 0 = 1", "has 0 4 99 0 0 = 1", "has 0 3 99 0 0 = 0", "has 0 10 0 0 0 = 1", "has 0 11 0 0 0 = 0",
                "lay 1 1 = 1", "back 1 1 = 0", "empty 1 = 1", "back 1 0 = 0");
        story.tell(quote, text, "lay 0 1 = 1", "meet 0 1 -1 2 1 = 1", "back 0 0 = 1", "lay 0 1 = 1", "meet 0 1 -1 4 1 = 1", "back 0 0 = 0", "lay 0 1 = 1", "meet 0 0 1 2 -2 = 1",
                "back 0 2 = 1", "has 0 0 0 0 0 = 1", "has 0 MOST 5 0 0 = 1", "lay 0 1 = 1", "meet 0 0 1 4 -2 = 1", "back 0 2 = 0");
        // Two sets, neither of them to 0, of an EDGE behind others that have sets: x is 3, y is 1 behind them.
        story.tell(quote, "clock x;clock y;place a;edge a a set x 9 set y 8;edge a a set y 1 set x 3;", "lay 0 1 = 1", "meet 0 0 1 2 2 = 1", "meet 0 1 -1 2 1 = 1", "back 0 1 = 1", "pairs 0 0 = 2", "has 0 0 99 0 0 = 1",
                "has 0 99 0 0 0 = 1", "lay 0 1 = 1", "meet 0 1 -1 1 0 = 1", "back 0 1 = 0", "lay 0 1 = 1", "meet 0 0 -1 1 2 = 1", "back 0 1 = 0", "lay 0 1 = 1", "meet 0 0 1 2 1 = 1", "back 0 0 = 1");
        // Without sets it is just the STAY of the end; time doesn't go on, and the STAY of the beginning is not asked.
        story.tell(quote, text, "lay 0 1 = 1", "back 0 3 = 1", "has 0 99 5 0 0 = 1", "has 0 99 6 0 0 = 0", "back 0 -1 = -1", "back 0 4 = -1", "back 0 MOST = -1", "back 0 LEAST = -1",
                "count 6 = 2", "undo = 1", "has 0 99 6 0 0 = 1");
        noSuchTable(quote, text, "back # 3", "-1");
    }

    private void longest() {
        String text = "clock x;clock y;place a when x<=5;place b when x<5;place c;place d when x<5 when y<=4;place e when x>=3;";
        String quote = "How long one may stay in a PLACE at most, from some times of a TABLE on that keep its STAY, what 0 the number (1000: without end), 1 whether it is reached (1, 0; 0 without end)";
        story.tell(quote, text, "longest 0 0 0 = 5", "longest 0 0 1 = 1", "longest 0 1 0 = 5", "longest 0 1 1 = 0", "longest 0 2 0 = 1000", "longest 0 2 1 = 0", "longest 0 3 0 = 4",
                "longest 0 3 1 = 1", "reset 0 0 1 = 1", "longest 0 3 0 = 4", "longest 0 3 1 = 0", "reset 0 0 2 = 1", "longest 0 3 0 = 3", "longest 0 3 1 = 0",
                "reset 0 0 4 = 1", "longest 0 0 0 = 1", "longest 0 1 0 = 1", "reset 0 0 5 = 1", "longest 0 0 0 = 0", "longest 0 0 1 = 1", "longest 0 1 0 = -1000",
                "longest 0 1 1 = -1000", "reset 0 0 6 = 1", "longest 0 0 0 = -1000", "longest 0 2 0 = 1000", "longest 0 4 0 = 1000", "reset 0 0 2 = 1", "longest 0 4 0 = -1000");
        story.tell(quote, text, "lay 0 1 = 1", "meet 0 0 -1 4 1 = 1", "longest 0 0 0 = 4", "longest 0 0 1 = 0", "meet 0 0 -1 3 5 = 1", "longest 0 0 0 = 0", "longest 0 0 1 = 1",
                "longest 0 1 0 = -1000");
        // Four clocks, the last of them alone bounded, and set to something else than the others.
        String four = "clock a;clock b;clock c;clock d;place p when d<=9 when c<20;edge p p when d>=8 when a>3;";
        story.tell(quote, four, "reset 0 3 2 = 1", "longest 0 0 0 = 7", "longest 0 0 1 = 1", "soonest 0 0 0 = 6", "soonest 0 0 1 = 1", "reset 0 2 15 = 1", "longest 0 0 0 = 5", "longest 0 0 1 = 0",
                "soonest 0 0 0 = -1000", "reset 0 2 0 = 1", "reset 0 3 5 = 1", "longest 0 0 0 = 4", "longest 0 0 1 = 1", "soonest 0 0 0 = 3", "soonest 0 0 1 = 0");
        String none = "-1000: the TABLE has none such; -2000: no such ones.";
        story.tell(none, text, "lay 0 2 = 1", "longest 0 0 0 = -1000", "longest 0 2 0 = -1000", "longest 0 2 1 = -1000", "longest 0 5 0 = -2000", "longest 0 0 2 = -2000",
                "longest 1 -1 0 = -2000", "longest 1 5 0 = -2000", "longest 1 MOST 0 = -2000", "longest 1 0 -1 = -2000", "longest 1 0 2 = -2000", "longest 1 4 1 = -1000");
        noSuchTable(none, text, "longest # 0 0", "-2000");
    }

    private void soonest() {
        String text = "clock x;clock y;place a when x<=3;place b when x<3;place c;edge a c when x>=3;edge a c when x>3;edge b c when x>=3;edge b c when x>2;edge c a when x=3 when y>1;edge c c;edge a c when x=0;";
        String quote = "How long one stays at least, from some times of a TABLE on, in the PLACE where an EDGE begins (by its STAY) until the whens of that hold";
        story.tell(quote, text, "soonest 0 0 0 = 3", "soonest 0 0 1 = 1", "soonest 0 1 0 = -1000", "soonest 0 1 1 = -1000", "soonest 0 2 0 = -1000", "soonest 0 3 0 = 2", "soonest 0 3 1 = 0",
                "soonest 0 4 0 = 3", "soonest 0 4 1 = 1", "soonest 0 5 0 = 0", "soonest 0 5 1 = 1", "soonest 0 6 0 = 0", "soonest 0 6 1 = 1", "reset 0 0 1 = 1", "soonest 0 0 0 = 2",
                "soonest 0 6 0 = -1000", "reset 0 0 2 = 1", "soonest 0 4 0 = -1000", "reset 0 0 3 = 1", "soonest 0 0 0 = 0", "soonest 0 0 1 = 1", "soonest 0 3 0 = -1000",
                "reset 0 0 4 = 1", "soonest 0 0 0 = -1000", "soonest 0 4 0 = -1000", "soonest 0 5 0 = 0");
        story.tell(quote, text, "lay 0 1 = 1", "meet 0 0 -1 0 1 = 1", "soonest 0 0 0 = 2", "soonest 0 0 1 = 0", "meet 0 0 1 3 0 = 1", "soonest 0 4 0 = 2", "soonest 0 4 1 = 0");
        String none = "-1000: they never do, there are none; -2000: no such ones.";
        story.tell(none, text, "lay 0 2 = 1", "soonest 0 5 0 = -1000", "soonest 0 5 1 = -1000", "soonest 0 7 0 = -2000", "soonest 0 5 2 = -2000", "soonest 1 -1 0 = -2000",
                "soonest 1 7 0 = -2000", "soonest 1 LEAST 0 = -2000", "soonest 1 0 -1 = -2000", "soonest 1 0 2 = -2000", "soonest 1 6 1 = 1");
        noSuchTable(none, text, "soonest # 0 0", "-2000");
    }

    private void single() {
        String quote = "CLOCKS (bits) that have one time alone in a TABLE; -2: it is EMPTY; NONE: no such one.";
        story.tell(quote, TWO, "single 0 = 3", "pass 0 0 = 1", "single 0 = 0", "reset 0 1 7 = 1", "single 0 = 2", "meet 0 0 -1 2 3 = 1", "single 0 = 3", "free 0 1 = 1", "single 0 = 1",
                "lay 0 2 = 1", "single 0 = -2");
        story.tell(quote, TWO, "lay 0 1 = 1", "meet 0 0 -1 3 3 = 1", "meet 0 0 -1 1 4 = 1", "single 0 = 0", "meet 0 0 -1 0 4 = 1", "single 0 = 0", "meet 0 0 -1 1 3 = 1", "single 0 = 1");
        story.tell(quote, FOUR, "single 0 = 15", "free 0 2 = 1", "single 0 = 11");
        story.tell(quote, "place a;", "single 0 = 0", "lay 0 2 = 1", "single 0 = -2");
        noSuchTable(quote, TWO, "single #", "-1");
    }
}
