/** The document's sentences about the tape, the text and its faults, each at its edges. */
final class TextSentences {
    /** What stands while other texts are refused: clocks, a table, a trace, something to undo. */
    private static final String STANDS = "clock q;clock r;place q when q<=9;place r;edge q r when q>1 set r 2;edge r q;start q;";
    private static final String FOUR = "clock a;clock b;clock c;clock d;";
    private static final String EIGHT = "place a;place b;place c;place d;place e;place f;place g;place h;";
    private final Story story;

    TextSentences(Story story) {
        this.story = story;
    }

    private void fault(String quote, String text, int kind, int at) {
        story.tell(quote, STANDS, "lay 1 1 = 1", "add 0 = 1", "reset 2 1 3 = 1", "tell " + text + " = -1", "fault 0 = " + kind,
                "fault 1 = " + at, "count 7 = 0", "undo = 2", "first 2 1 = 0", "trace 0 = 0");
    }

    private void reads(String quote, String text, int lines) {
        story.tell(quote, STANDS, "add 0 = 1", "tell " + text + " = " + lines, "fault 0 = 0", "fault 1 = -1", "count 0 = " + lines,
                "count 7 = 0", "count 5 = 0", "count 6 = 0", "undo = -1");
    }

    void all() {
        newObject();
        feed();
        text();
        textsLength();
        faultAsked();
        lines();
        words();
        numbers();
        blanks();
        rels();
        limits();
        toldAhead();
        names();
        order();
        noPlace();
    }

    private void newObject() {
        story.tell("No CLOCKS, no PLACES; an empty TAPE, an empty TRACE.", null, "count 0 = 0", "count 1 = 0", "count 2 = 0",
                "count 3 = 0", "count 4 = -1", "count 5 = 0", "count 6 = 0", "count 7 = 0", "place 0 0 = index", "edge 0 0 = index",
                "great 0 = -1", "trace -1 = 0", "trace 0 = -2", "undo = -1", "can = -1", "breaks = -1", "nodes = 0", "reached = 0",
                "stuck = -2", "deepest 0 = -2", "deepest 1 = -2", "lead 0 = -1", "add 0 = -1", "leads 0 = -1", "take 0 0 = -1",
                "lead -1 = 0", "undo = 0");
        String[] tables = new String[24];
        for (int t = 0; t < 4; t++) {
            String[] of = {"empty " + t + " = 0", "has " + t + " 1 2 3 4 = 1", "pairs " + t + " 0 = 0", "single " + t + " = 0",
                "whole " + t + " 9 = 1", "bound " + t + " -1 0 0 = -2000"};
            System.arraycopy(of, 0, tables, 6 * t, 6);
        }
        story.tell("at first, and behind each text, each is all 0", null, tables);
        story.tell("at first, and behind each text, each is all 0", null, "lay 0 2 = 1", "pass 0 0 = 0", "lay 0 1 = 1", "pass 0 0 = 1",
                "rough 0 = 1", "join 0 1 = 1", "both 0 1 = 1", "copy 0 3 = 1", "meet 0 -1 0 1 0 = -1", "reset 0 0 0 = -1",
                "free 0 0 = -1", "step 0 0 = -1", "stay 0 0 = -1", "back 0 0 = -1", "undo = 7");
        story.tell("at first, and behind each text, each is all 0", STANDS, "lay 0 1 = 1", "lay 1 2 = 1", "reset 2 0 5 = 1", "pass 3 0 = 1",
                "tell " + STANDS + " = 7", "has 0 0 0 0 0 = 1", "has 0 1 1 0 0 = 0", "has 1 0 0 0 0 = 1", "has 1 1 0 0 0 = 0",
                "has 2 0 0 9 9 = 1", "has 2 10 0 0 0 = 0", "has 3 0 0 0 0 = 1", "has 3 1 1 0 0 = 0");
    }

    private void feed() {
        String five = "feed 538976288 538976288 538976288 538976288 538976288";
        String[] fed = new String[46];
        for (int k = 0; k < 46; k++) {
            fed[k] = five + " = " + (k < 45 ? 20 * (k + 1) : -1);
        }
        story.tell("NONE, and none come, if it would have more than 900", null, Story.together((Object) fed));
        story.tell("NONE, and none come, if it would have more than 900", null, Story.together(fed, "count 7 = 900", five + " = -1",
                "text 901 = -2", "text 900 = -1", "fault 0 = 4", "fault 1 = 900", "count 7 = 0", five + " = 20"));
        // Both sides of the edge hold a text's own bytes: the last of 880, of 900, and none of those refused.
        String text = Story.times(" ", 892) + "place a;";
        story.tell("NONE, and none come, if it would have more than 900", null, "tell " + text + " = 1");
        story.tell("NONE, and none come, if it would have more than 900", null, "tell " + text + Story.times(" ", 20) + " = -2",
                "count 7 = 900", "text 900 = 1");
        story.tell("Twenty bytes come behind the TAPE, four of each number, the highest first", null,
                "feed 1886151011 1696620859 1668050787 1797290043 538976288 = 20", "text 16 = 2", "count 1 = 1", "count 2 = 1");
        story.tell("Twenty bytes come behind the TAPE, four of each number, the highest first", null,
                "feed -1 LEAST MOST 0 1 = 20", "feed 0 0 0 0 0 = 40", "text 40 = -1", "fault 0 = 1", "fault 1 = 0");
    }

    private void text() {
        story.tell("-2, and the TAPE stays: there are not so many, n is below 0", null, "text 1 = -2", "text -1 = -2", "text LEAST = -2",
                "text MOST = -2", "fault 0 = 0", "fault 1 = -1", "text 0 = -1", "fault 0 = 4", "fault 1 = 0");
        story.tell("-2, and the TAPE stays: there are not so many, n is below 0", STANDS,
                "feed 1886151011 1696620859 538976288 538976288 538976288 = 20", "text 21 = -2", "text -1 = -2", "text MOST = -2",
                "text LEAST = -2", "count 7 = 20", "text 20 = 1", "text 1 = -2", "text 0 = -1");
        story.tell("The TAPE's first n bytes (it is empty then) are the TEXT", null,
                "feed 1886151011 1696620859 1886151011 1696620987 1886151011 = 20", "text 8 = 1", "count 2 = 1", "count 7 = 0");
        story.tell("The TAPE's first n bytes (it is empty then) are the TEXT", null,
                "feed 1886151011 1696620859 1886151011 1696621115 1886151011 = 20", "text 16 = 2", "count 2 = 2", "text 1 = -2");
        story.tell("The TAPE's first n bytes (it is empty then) are the TEXT", null,
                "feed 1886151011 1696620859 1886151011 1696621115 1886151011 = 20", "text 15 = -1", "fault 0 = 1", "fault 1 = 15",
                "count 7 = 0", "count 2 = 0");
        story.tell("(all anew, the TRACE empty, nothing to undo)", STANDS, "lay 1 1 = 1", "add 0 = 1", "lead 1 = 1", "reset 0 0 7 = 1",
                "count 6 = 4", "tell clock u;place v;place w;start w; = 4", "count 6 = 0", "undo = -1", "count 5 = 0", "trace 0 = -2",
                "count 0 = 4", "count 1 = 1", "count 2 = 2", "count 3 = 0", "count 4 = 1", "great 0 = 0", "great 1 = -1", "nodes = 1",
                "reached = 2", "place 0 0 = 0", "place 0 3 = -2", "place 2 0 = index", "edge 0 0 = index", "when 0 0 0 = -1",
                "tells 0 0 = 0", "tells 0 1 = 0", "tells 0 2 = 0", "has 1 0 9 9 9 = 1", "has 1 1 0 0 0 = 0", "can = 1");
        // Nothing of the text ahead of the one ahead is left either, nor of one that was refused.
        story.tell("(all anew, the TRACE empty, nothing to undo)", "clock q;clock r;place q when q<=9;place r when r<=8;edge q r when q>1 set r 2;edge r q;start r;",
                "tell place u; = 1", "tell clock u;place v;place w;edge v w; = 4", "count 3 = 1", "count 4 = 0", "great 0 = 0", "place 0 0 = 0", "place 1 0 = 0",
                "edge 0 2 = 0", "edge 0 3 = 0", "when 0 0 0 = -2", "set 0 0 0 = -2", "tells 0 0 = 0", "tells 0 1 = 0", "tells 0 2 = 0", "nodes = 2", "open 0 = 1", "open 1 = 0",
                "tell place v;place w;start w; = 3", "tell place v;place w;start w; = 3", "count 4 = 1", "tell place v; = 1", "count 4 = 0");
        story.tell("(all anew, the TRACE empty, nothing to undo)", "place a;", "tell clock a;place a when a<7;edge a a when a<5 set a 3;place b;start b;! = -1", "fault 0 = 1", "fault 1 = 67",
                "tell clock a;place b;edge b b; = 3", "count 4 = 0", "great 0 = 0", "place 0 0 = 0", "edge 0 2 = 0", "edge 0 3 = 0", "tell place a;place b;start b;! = -1", "tell place a;place b;start b; = 3",
                "count 4 = 1");
        story.tell("NONE with a FAULT, all else stays", STANDS, "lay 1 1 = 1", "add 0 = 1", "tell place a = -1", "count 0 = 7",
                "count 2 = 2", "count 4 = 0", "count 5 = 1", "count 6 = 2", "undo = 1", "undo = 0", "undo = -1");
        story.tell("NONE with a FAULT, all else stays", null, "tell place a = -1", "count 0 = 0", "count 2 = 0", "count 4 = -1",
                "can = -1", "tell place a; = 1", "can = 1");
        story.tell("how many LINES", null, "tell place a; = 1", "tell clock a;place a; = 2",
                "tell " + FOUR + EIGHT + Story.times("edge a a;", 16) + "start h; = 29", "count 0 = 29");
    }

    /** Bytes behind the n-th are no part of the text, whatever they would go on with: blanks, or what stands there. */
    private void textsLength() {
        String quote = "The TAPE's first n bytes (it is empty then) are the TEXT";
        String text = "clock x;place a when x<=12;";
        int[][] cuts = {{0, 4, 0}, {1, 1, 0}, {4, 1, 0}, {5, 1, 5}, {6, 1, 6}, {7, 1, 7}, {8, 4, 8}, {9, 1, 8}, {12, 1, 8}, {13, 1, 13},
            {14, 1, 14}, {15, 1, 15}, {16, 1, 16}, {17, 1, 16}, {19, 1, 16}, {20, 1, 20}, {21, 1, 21}, {22, 1, 22}, {23, 1, 23}, {24, 1, 24},
            {25, 1, 25}, {26, 1, 26}};
        for (int[] c : cuts) {
            story.tell(quote, null, Story.together((Object) cut(text, c)));
            story.tell(quote, null, "fed " + text + " = 40", "text " + c[0] + " = -1", "fault 0 = " + c[1], "fault 1 = " + c[2], "count 7 = 0", "text 1 = -2");
        }
        story.tell(quote, null, "tell " + text + " = 2");
        story.tell(quote, null, "fed " + text + "place a; = 40", "text 27 = 2", "count 1 = 1", "place 0 0 = 1");
        // What would go on: a word, a longer word, another word of the LINES, a number, a REL.
        cutWithin("place ab;", 7, 1, 7);
        cutWithin("place abcdefg;", 12, 1, 12);
        cutWithin("place abcdefg;", 13, 1, 6);
        cutWithin("place whena;", 10, 1, 6);
        cutWithin("place placea;", 11, 1, 6);
        cutWithin("place placea;", 12, 1, 12);
        cutWithin("clock x;place a when x<501;", 25, 1, 25);
        cutWithin("clock x;place a when x<501;", 26, 2, 23);
        cutWithin("clock x;place a when x<=7;", 23, 1, 23);
        cutWithin("clock x;place a when x>=7;", 23, 1, 23);
        cutWithin("clock x;place a when x>=7;", 24, 1, 24);
        // What is left behind the TAPE's end of a longer one ahead is no part of it either.
        story.tell(quote, null, "fed clock a;place abcdefghi klm; = 40", "text 40 = -1", "fault 1 = 14", "fed clock c;place abcdef = 20", "text 20 = -1", "fault 0 = 1", "fault 1 = 20");
        String blanks = Story.times(" ", 17);
        leftBehind(Story.times("q", 40) + "12;", "clock a;place b" + blanks + "when a<5");
        leftBehind(Story.times("q", 40) + "=5;", "clock a;place b" + blanks + " when a<");
        leftBehind(Story.times("q", 40) + " 5;", "clock a;place b" + blanks + "when a<=");
        leftBehind(Story.times("q", 40) + "a5;", "clock a;place b" + blanks + "  when a");
    }

    private void cutWithin(String text, int n, int kind, int at) {
        String quote = "The TAPE's first n bytes (it is empty then) are the TEXT";
        story.tell(quote, null, "fed " + text + " = " + (text.length() + 19) / 20 * 20, "text " + n + " = -1", "fault 0 = " + kind, "fault 1 = " + at);
    }

    /** Sixty bytes ahead, then forty with which the text ends in the middle of a LINE. */
    private void leftBehind(String ahead, String text) {
        String quote = "The TAPE's first n bytes (it is empty then) are the TEXT";
        story.tell(quote, null, "fed " + ahead + " = 60", "text 60 = -1", "fault 0 = 1", "fault 1 = 0", "fed " + text + " = 40", "text 40 = -1", "fault 0 = 1",
                "fault 1 = 40", "text 1 = -2");
    }

    private static String[] cut(String text, int[] c) {
        return new String[] {"tell " + text.substring(0, c[0]) + " = -1", "fault 0 = " + c[1], "fault 1 = " + c[2]};
    }

    private void faultAsked() {
        story.tell("its FAULT (0 without, and ahead of any)", null, "fault 0 = 0", "text 1 = -2", "fault 0 = 0", "text 0 = -1",
                "fault 0 = 4", "tell place a; = 1", "fault 0 = 0");
        story.tell("1: its place (NONE without)", null, "fault 1 = -1", "text -1 = -2", "fault 1 = -1", "text 0 = -1", "fault 1 = 0",
                "tell place a; = 1", "fault 1 = -1");
        story.tell("Of the latest text() that was not -2", null, "tell place ! = -1", "fault 0 = 1", "fault 1 = 6", "text 1 = -2",
                "fault 0 = 1", "fault 1 = 6", "text -1 = -2", "fault 1 = 6", "tell clock x; = -1", "fault 0 = 4", "fault 1 = 8");
        story.tell("NONE for another what.", null, "text 0 = -1", "fault 2 = -1", "fault -1 = -1", "fault MOST = -1", "fault LEAST = -1");
    }

    private void lines() {
        String quote = "A TEXT: { LINE ';' }. LINE: clock W | place W { when } | edge W W { when } { set W N } | start W. when: when W REL N.";
        fault(quote, ";", 1, 0);
        fault(quote, "place a;;", 1, 8);
        fault(quote, "place a;a", 1, 8);
        fault(quote, "place a;7", 1, 8);
        fault(quote, "place a;=", 1, 8);
        fault(quote, "place a;when", 1, 8);
        fault(quote, "place a;set", 1, 8);
        fault(quote, "place a place b;", 1, 8);
        reads(quote, "place a;", 1);
        reads(quote, "place a;place b;", 2);
        fault(quote, "clock;place a;", 1, 5);
        fault(quote, "clock x y;", 1, 8);
        fault(quote, "clock x 1;", 1, 8);
        fault(quote, "clock x when x<1;", 1, 8);
        fault(quote, "clock x set x 1;", 1, 8);
        fault(quote, "clock x clock y;", 1, 8);
        fault(quote, "place;", 1, 5);
        fault(quote, "place a b;", 1, 8);
        fault(quote, "clock x;place a set x 1;", 1, 16);
        fault(quote, "clock x;place a when x<1 set x 1;", 1, 25);
        fault(quote, "place a;edge;", 1, 12);
        fault(quote, "place a;edge a;", 1, 14);
        fault(quote, "place a;edge a a a;", 1, 17);
        fault(quote, "place a;edge a when;", 1, 15);
        fault(quote, "clock x;place a;edge a a set x 1 when x<1;", 1, 33);
        fault(quote, "place a;start;", 1, 13);
        fault(quote, "place a;start a a;", 1, 16);
        fault(quote, "clock x;place a;start a when x<1;", 1, 24);
        fault(quote, "clock x;place a when;", 1, 20);
        fault(quote, "clock x;place a when x;", 1, 22);
        fault(quote, "clock x;place a when x 1;", 1, 23);
        fault(quote, "clock x;place a when x<;", 1, 23);
        fault(quote, "clock x;place a when x<x;", 1, 23);
        fault(quote, "clock x;place a when <1;", 1, 21);
        fault(quote, "clock x;place a when x<1 2;", 1, 25);
        fault(quote, "clock x;place a when 1<x;", 1, 21);
        fault(quote, "clock x;place a;edge a a set x;", 1, 30);
        fault(quote, "clock x;place a;edge a a set 1;", 1, 29);
        fault(quote, "clock x;place a;edge a a set x=1;", 1, 30);
        fault(quote, "clock x;place a;edge a a set x 1 2;", 1, 33);
        reads(quote, "clock x;place a when x<1;edge a a when x<1 set x 1;start a;", 4);
        reads(quote, "place a;start a;place b;clock x;edge b a;", 5);
        story.tell("can't stand there (a W that isn't told, the length, if more must come)", null, "tell place = -1", "fault 0 = 1",
                "fault 1 = 5", "tell place  = -1", "fault 1 = 6", "tell place a = -1", "fault 1 = 7", "tell place a \n = -1", "fault 0 = 1",
                "fault 1 = 9", "tell place a;edge = -1", "fault 1 = 12", "tell place a;edge a = -1", "fault 1 = 14",
                "tell place a;start = -1", "fault 1 = 13", "tell clock x;place a when = -1", "fault 1 = 20");
    }

    private void words() {
        String quote = "W: 1 .. 6 letters a .. z, none of clock, place, edge, start, when, set.";
        reads(quote, "place a;place z;place az;place zzzzzz;edge zzzzzz a;", 5);
        reads(quote, "place abcde;place abcdef;", 2);
        fault(quote, "place abcdefg;", 1, 6);
        fault(quote, "place ;", 1, 6);
        for (String w : new String[] {"clock", "place", "edge", "start", "when", "set"}) {
            fault(quote, "place " + w + ";", 1, 6);
            fault(quote, "clock " + w + ";", 1, 6);
            fault(quote, "clock x;place a when " + w + "<1;", 1, 21);
            fault(quote, "clock x;place a;edge a a set " + w + " 1;", 1, 29);
            fault(quote, "place a;edge " + w + " a;", 1, 13);
            fault(quote, "place a;edge a " + w + ";", 1, 15);
            fault(quote, "place a;start " + w + ";", 1, 14);
            reads(quote, "place " + w.substring(0, w.length() - 1) + ";place " + w + "s;place x" + w + ";", 3);
            reads(quote, "clock " + w.substring(1) + ";place " + w.substring(1) + ";", 2);
        }
        int[] beside = {'a' - 1, 'z' + 1, 'A', 'Z', 'A' - 1, 'Z' + 1, '_', 225, 250};
        for (int c : beside) {
            fault(quote, "place " + (char) c + ";", 1, 6);
            fault(quote, "place a" + (char) c + ";", 1, 7);
        }
        String longer = "(a word of more letters, too, at its first)";
        fault(longer, "place a;placeaa a;", 1, 8);
        fault(longer, "place a;edge a aaaaaaa;", 1, 15);
        fault(longer, "place a;aaaaaaaaaaaaaaaaaaaaaaaaaaaaaaaaaaaaaaaaaaaaaaaaaa", 1, 8);
        fault(longer, "clock x;place a when xxxxxxx<1;", 1, 21);
        fault(longer, "place a;edge a a whenwhen;", 1, 17);
        // A word whose first letters would fall out of any number that holds six alone.
        fault(longer, "place a;place aclock;place bclock;place abclock;", 1, 40);
        fault(longer, "place a;aaaaaaaplace b;", 1, 8);
        reads(longer, "place aaaaaa;place baaaaa;place aaaaab;edge baaaaa aaaaab;start aaaaab;", 5);
    }

    private void numbers() {
        String quote = "N: digits, 0 .. 50.";
        for (String n : new String[] {"0", "1", "9", "10", "49", "50", "00", "050", Story.times("0", 250) + "50"}) {
            reads(quote, "clock x;place a when x<" + n + ";edge a a when x>" + n + " set x " + n + ";", 3);
        }
        String above = "2 a number above 50 (at it)";
        for (String n : new String[] {"51", "52", "60", "99", "100", "051", "500", "2147483647", "2147483648", "4294967295", "4294967296",
            "4294967346", "18446744073709551616", Story.times("9", 300), "1" + Story.times("0", 64)}) {
            fault(above, "clock x;place a when x<" + n + ";", 2, 23);
            fault(above, "clock x;place a;edge a a when x= " + n + ";", 2, 33);
            fault(above, "clock x;place a;edge a a set x " + n + ";", 2, 31);
            fault(above, "clock x;place a when x<" + n, 2, 23);
        }
        fault(quote, "clock x;place a when x<-1;", 1, 23);
        fault(quote, "clock x;place a when x<1a;", 1, 24);
        fault(quote, "clock x;place a when x<1.0;", 1, 24);
        fault(quote, "clock x;place a when x<" + (char) ('0' - 1) + ";", 1, 23);
        fault(quote, "clock x;place a when x<" + (char) ('9' + 1) + ";", 1, 23);
        fault(quote, "clock x;place a when x<5 0;", 1, 25);
        story.tell(quote, "clock x;place a;edge a a when x<050 set x 00;", "when 0 0 2 = 50", "set 0 0 1 = 0", "great 0 = 50");
    }

    /** Each byte in turn where a blank may stand: just two of them are blanks. */
    private void blanks() {
        String quote = "Blanks 10, 32 (none within <=, >=).";
        for (int c = 0; c < 256; c++) {
            String text = "place" + (char) c + "a;";
            if (c == 10 || c == 32) {
                reads(quote, text, 1);
            } else {
                fault(quote, text, 1, c >= 'a' && c <= 'z' ? 0 : 5);
            }
            // Behind a LINE, and ahead of the first one.
            String behind = "place a;" + (char) c;
            String ahead = (char) c + "place a;";
            if (c == 10 || c == 32) {
                reads(quote, behind, 1);
                reads(quote, ahead, 1);
            } else {
                fault(quote, behind, 1, 8);
                fault(quote, ahead, 1, 0);
            }
        }
        reads(quote, "\n \nclock\nx\n;\n\nplace  a when\nx\n<=\n1\nwhen x>= 2 ;\n edge\na\na\nwhen x = 1 set\nx\n3\n;start a ; \n", 4);
        reads(quote, "clock x;place a when x<=1when x>=2when x=3when x<4when x>5;edge a a when x<1set x 2;start a;", 4);
        fault(quote, "clock x;place a when x< =1;", 1, 24);
        fault(quote, "clock x;place a when x<\n=1;", 1, 24);
        fault(quote, "clock x;place a when x> =1;", 1, 24);
        fault(quote, "clock x;place a when x>\n=1;", 1, 24);
        fault(quote, "pla ce a;", 1, 0);
        fault(quote, "placea;", 1, 0);
        fault(quote, "place a;edge aa;", 1, 13);
        fault(quote, "clock x;place a;edge a a setx 1;", 1, 25);
    }

    private void rels() {
        String quote = "REL: < | <= | = | >= | >.";
        String[] rels = {"<", "<=", "=", ">=", ">"};
        for (int k = 0; k < 5; k++) {
            story.tell(quote, "clock x;place a;edge a a when x" + rels[k] + "7;", "when 0 0 1 = " + k, "when 0 0 2 = 7", "when 0 0 0 = 0");
        }
        fault(quote, "clock x;place a when x=<1;", 1, 23);
        fault(quote, "clock x;place a when x=>1;", 1, 23);
        fault(quote, "clock x;place a when x==1;", 1, 23);
        fault(quote, "clock x;place a when x<<1;", 1, 23);
        fault(quote, "clock x;place a when x>>1;", 1, 23);
        fault(quote, "clock x;place a when x<>1;", 1, 23);
        fault(quote, "clock x;place a when x<==1;", 1, 24);
        fault(quote, "clock x;place a when x>==1;", 1, 24);
        fault(quote, "clock x;place a when x!1;", 1, 22);
        fault(quote, "clock x;place a when x;1;", 1, 22);
    }

    private void limits() {
        String most = "clock, at most 4; place, at most 8; edge, at most 16";
        String fifth = "a fifth clock, ninth place, 17th edge (at the word)";
        reads(most, "clock a;clock b;clock c;place p;", 4);
        reads(most, FOUR + "place p;", 5);
        fault(fifth, FOUR + "clock e;place p;", 2, 32);
        fault(fifth, FOUR + " clock a;", 2, 33);
        fault(fifth, FOUR + "place p;\nclock", 2, 41);
        reads(most, EIGHT.substring(0, 56), 7);
        reads(most, EIGHT, 8);
        fault(fifth, EIGHT + "place i;", 2, 64);
        fault(fifth, EIGHT + "place a;", 2, 64);
        fault(fifth, EIGHT + "clock x;place !", 2, 72);
        String edges = "place a;" + Story.times("edge a a;", 15);
        reads(most, edges, 16);
        reads(most, edges + "edge a a;", 17);
        fault(fifth, edges + "edge a a;edge a a;", 2, 152);
        fault(fifth, edges + "edge a a; edge z z;", 2, 153);
        fault(fifth, edges + "edge a a;start a;edge", 2, 160);
        String whens = "when: at most 6 in a LINE";
        String seventh = "a seventh when, fifth set (at the word)";
        String stay = "clock x;place a" + Story.times(" when x<1", 5);
        reads(whens, stay + ";", 2);
        reads(whens, stay + " when x<1;", 2);
        fault(seventh, stay + " when x<1 when x<1;", 2, 70);
        fault(seventh, stay + " when x<1 when", 2, 70);
        reads(whens, stay + " when x<1;place b" + Story.times(" when x>1", 6) + ";edge a b" + Story.times(" when x>1", 6) + ";", 4);
        String edge = "clock x;place a;edge a a" + Story.times(" when x<1", 5);
        reads(whens, edge + " set x 1;", 3);
        reads(whens, edge + " when x<1 set x 1;", 3);
        fault(seventh, edge + " when x<1 when x<1 set x 1;", 2, 79);
        fault(seventh, edge + " when x<1 when !", 2, 79);
        String sets = FOUR + "place p;edge p p set a 1 set b 2 set c 3";
        reads("set: at most 4 in a LINE, unlike CLOCKS.", sets + ";", 6);
        reads("set: at most 4 in a LINE, unlike CLOCKS.", sets + " set d 4;edge p p set d 1 set c 1 set b 1 set a 1;", 7);
        fault(seventh, sets + " set d 4 set a 1;", 2, 81);
        fault(seventh, sets + " set d 4 set", 2, 81);
        fault(seventh, sets + " set d 4 set e 1;", 2, 81);
    }

    private void toldAhead() {
        String edge = "(from a PLACE to one, both told ahead)";
        reads(edge, "place a;place b;edge a b;edge b a;edge b b;", 5);
        fault(edge, "place a;edge a b;place b;", 1, 15);
        fault(edge, "place a;edge b a;place b;", 1, 13);
        fault(edge, "clock x;place a;edge a x;", 1, 23);
        fault(edge, "clock x;place a;edge x a;", 1, 21);
        fault(edge, "edge a a;place a;", 1, 5);
        String clock = "A W of when, set is a CLOCK told ahead.";
        fault(clock, "place a when x<1;clock x;", 1, 13);
        fault(clock, "place a;edge a a when x<1;clock x;", 1, 22);
        fault(clock, "place a;edge a a set x 1;clock x;", 1, 21);
        fault(clock, "clock x;place a when a<1;", 1, 21);
        fault(clock, "clock x;place a;edge a a set a 1;", 1, 29);
        reads(clock, "place b;clock x;place a when x<1;edge a b when x<1 set x 1;", 4);
        String start = "start: a PLACE told ahead, once; without it PLACE 0.";
        fault(start, "start a;place a;", 1, 6);
        fault(start, "place a;start b;place b;", 1, 14);
        fault(start, "clock x;place a;start x;", 1, 22);
        story.tell(start, "place a;place b;", "count 4 = 0");
        story.tell(start, "place a;place b;start b;", "count 4 = 1");
        story.tell(start, "place a;start a;place b;", "count 4 = 0");
        story.tell(start, EIGHT + "start h;", "count 4 = 7", "tell place a; = 1", "count 4 = 0");
    }

    private void names() {
        String unlike = "NAMES of CLOCKS are unlike, those of PLACES, too.";
        String already = "3 told already: a NAME (at it), start (at the word), a CLOCK set twice in a LINE (at it).";
        fault(already, "clock x;clock x;place a;", 3, 14);
        fault(already, "clock x;clock y;clock x", 3, 22);
        fault(already, "clock x;place a;clock y;clock  y;", 3, 31);
        fault(already, "place a;place a;", 3, 14);
        fault(already, "place a;place b when a<1;", 1, 21);
        fault(already, "place b;place a;place b !", 3, 22);
        reads(unlike, "clock a;place a;", 2);
        reads(unlike, "place a;clock a;place b;clock b;", 4);
        reads(unlike, "place a;place aa;place aaa;place aaaa;place aaaaa;place aaaaaa;", 6);
        reads(unlike, "place ab;place ba;clock ab;clock ba;", 4);
        fault(unlike, "place abcdef;place abcdef;", 3, 19);
        reads(unlike, "place abcdef;place abcdeg;place bbcdef;", 3);
        fault(already, "place a;start a;start a;", 3, 16);
        fault(already, "place a;place b;start a;start b;", 3, 24);
        fault(already, "place a;start a; start", 3, 17);
        fault(already, "place a;start a;start !", 3, 16);
        String sets = "clock x;clock y;place a;edge a a set x 1 set ";
        fault(already, sets + "x 1;", 3, 45);
        fault(already, sets + "y 1 set x 2;", 3, 53);
        fault(already, sets + "x 51;", 3, 45);
        fault(already, sets + "x", 3, 45);
        reads(already, sets + "y 1;edge a a set y 1 set x 1;", 5);
        reads(already, "clock x;place a when x<1 when x<1;edge a a when x<1 when x<1 set x 1;", 3);
    }

    private void order() {
        String quote = "FAULTS, the first along the text (of one place the least), with its place";
        fault(quote, "place a;! place a;", 1, 8);
        fault(quote, "place a;place a;!", 3, 14);
        fault(quote, "clock x;clock x;", 3, 14);
        fault(quote, "clock x;place a when x<51 !", 2, 23);
        fault(quote, "clock x;place a when x!51", 1, 22);
        fault(quote, "place a;place a", 3, 14);
        fault(quote, FOUR + "clock a", 2, 32);
        fault(quote, "place 51;", 1, 6);
        fault(quote, "51", 1, 0);
        fault(quote, "clock x;place a when 51", 1, 21);
        fault(quote, "place a;start a;place start", 1, 22);
        fault(quote, "place a;start a;place b start", 1, 24);
        fault(quote, FOUR + "place clock;", 1, 38);
        fault(quote, FOUR + "place p clock", 1, 40);
        fault(quote, EIGHT + "start place", 1, 70);
        fault(quote, "place a;" + Story.times("edge a a;", 16) + "start edge", 1, 158);
        fault(quote, "clock x;place a;edge a a" + Story.times(" when x<1", 6) + " set x 1 when", 1, 87);
        fault(quote, FOUR + "place p set a 1", 1, 40);
        fault(quote, FOUR + "place p;edge p p set a 1 set b 1 set c 1 set d 1 when", 1, 81);
        fault(quote, "clock x;place a when x", 1, 22);
        fault(quote, "clock abcdefg", 1, 6);
    }

    private void noPlace() {
        String quote = "4 no PLACE is told (at the end).";
        fault(quote, "", 4, 0);
        fault(quote, " ", 4, 1);
        fault(quote, "\n", 4, 1);
        fault(quote, "clock x;", 4, 8);
        fault(quote, "clock x; ", 4, 9);
        fault(quote, FOUR, 4, 32);
        fault(quote, "clock x", 1, 7);
        fault(quote, "clock x;clock", 1, 13);
        reads(quote, "place x;", 1);
        reads(quote, "clock x;place x;", 2);
    }
}
