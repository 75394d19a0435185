import java.io.IOException;
import java.nio.charset.StandardCharsets;
import java.nio.file.Files;
import java.nio.file.Paths;
import java.util.ArrayList;
import java.util.Arrays;
import java.util.HashSet;
import java.util.List;
import java.util.Set;

/**
 * Runs of calls, written down with the answer that is due behind each, told to a sentence of the
 * document. Behind each call that asks or is refused everything else is asked, too, and has to be
 * answered as if that call had not been made, what undo brings back included. No object is used for
 * more than 512 calls.
 */
final class Story {
    private static final Calls CALLS = new Calls(ClockZones.class);
    private static final Set<String> CHANGERS = new HashSet<>(Arrays.asList("feed", "text", "lay", "meet", "pass", "reset",
            "free", "copy", "join", "both", "step", "stay", "rough", "take", "back", "undo", "add", "lead"));
    private final Probe probe;
    private final String[] sections;
    private final boolean[] quoted;

    /** One call: its name, its arguments. */
    private static final class Call {
        private final String name;
        private final int[] args;

        private Call(String name, int... args) {
            this.name = name;
            this.args = args;
        }

        @Override
        public String toString() {
            return name + Arrays.toString(args);
        }
    }

    Story(Probe probe) {
        this.probe = probe;
        sections = document().split("## Promise ");
        quoted = new boolean[sections.length];
    }

    private static String document() {
        String path = System.getProperty("clockzones.doc", "../shared/DOC.md");
        try {
            return plain(new String(Files.readAllBytes(Paths.get(path)), StandardCharsets.UTF_8));
        } catch (IOException e) {
            throw new IllegalStateException(e);
        }
    }

    private static String plain(String text) {
        return text.replaceAll("\\s+", " ");
    }

    /**
     * Tells a text (none if it is null), then the calls; each is written "name numbers = answer", or
     * "tell words = answer of text", or "fed words = answer of the last feed", blanks behind the words.
     */
    void tell(String quote, String text, String... calls) {
        note(quote);
        List<Call> kept = new ArrayList<>();
        ClockZones z = new ClockZones();
        if (text != null) {
            feeds(kept, text);
            kept.add(new Call("text", text.length()));
            long lines = run(z, kept);
            probe.holds(quote + ": the text " + text, lines > 0);
        }
        State state = new State(quote, z, kept);
        for (String line : calls) {
            state.go(line);
        }
    }

    void isAnother(String what, long not, long got) {
        probe.holds(what + " is not answered " + not, not != got);
    }

    private void note(String quote) {
        boolean found = false;
        for (int k = 0; k < sections.length; k++) {
            if (sections[k].contains(plain(quote))) {
                quoted[k] = true;
                found = true;
            }
        }
        probe.holds("the document says: " + quote, found);
    }

    void everyPromiseIsQuoted() {
        for (int k = 1; k < sections.length; k++) {
            probe.holds("a sentence of promise " + k + " is told", quoted[k]);
        }
        probe.due("promises", 57, sections.length);
    }

    /** The same call many times, its answers going up by one from the first on. */
    static String[] counted(int many, String call, int first) {
        String[] lines = new String[many];
        for (int k = 0; k < many; k++) {
            lines[k] = call + " = " + (first + k);
        }
        return lines;
    }

    static String[] together(Object... parts) {
        List<String> all = new ArrayList<>();
        for (Object part : parts) {
            if (part instanceof String[]) {
                all.addAll(Arrays.asList((String[]) part));
            } else {
                all.add((String) part);
            }
        }
        return all.toArray(new String[0]);
    }

    static String times(String piece, int many) {
        StringBuilder all = new StringBuilder();
        for (int k = 0; k < many; k++) {
            all.append(piece);
        }
        return all.toString();
    }

    private static void feeds(List<Call> calls, String text) {
        for (int i = 0; i < text.length(); i += 20) {
            int[] five = new int[5];
            for (int k = 0; k < 20; k++) {
                five[k / 4] = five[k / 4] << 8 | (i + k < text.length() ? text.charAt(i + k) & 255 : 32);
            }
            calls.add(new Call("feed", five));
        }
    }

    private static long run(ClockZones z, List<Call> calls) {
        long last = 0;
        for (Call c : calls) {
            last = CALLS.ask(z, c.name, c.args);
        }
        return last;
    }

    private static int number(String word) {
        if (word.equals("LEAST")) {
            return Integer.MIN_VALUE;
        }
        return word.equals("MOST") ? Integer.MAX_VALUE : Integer.parseInt(word);
    }

    private static long answer(String word) {
        if (word.equals("index")) {
            return Calls.INDEX;
        }
        return word.equals("element") ? Calls.ELEMENT : number(word);
    }

    /** An object in the middle of its story, and the calls that brought it there. */
    private final class State {
        private final String quote;
        private final ClockZones z;
        private final List<Call> kept;
        private int used;
        private long[] known = null;

        private State(String quote, ClockZones z, List<Call> kept) {
            this.quote = quote;
            this.z = z;
            this.kept = kept;
            used = kept.size();
        }

        private void go(String line) {
            int at = line.lastIndexOf(" = ");
            long due = answer(line.substring(at + 3));
            String call = line.substring(0, at);
            if (call.startsWith("fed ")) {
                feed(call.substring(4), due);
                return;
            }
            if (call.startsWith("tell ")) {
                feed(call.substring(5), null);
                one(new Call("text", call.length() - 5), due);
                return;
            }
            String[] words = call.split(" ");
            int[] args = new int[words.length - 1];
            for (int k = 0; k < args.length; k++) {
                args[k] = number(words[k + 1]);
            }
            one(new Call(words[0], args), due);
        }

        /** How many bytes the TAPE has is due of the last call, unless it is null. */
        private void feed(String text, Long due) {
            List<Call> feeds = new ArrayList<>();
            feeds(feeds, text);
            for (int k = 0; k < feeds.size(); k++) {
                one(feeds.get(k), k == feeds.size() - 1 ? due : null);
            }
        }

        private void one(Call call, Long due) {
            used++;
            probe.holds(quote + ": within 512 calls", used <= Calls.MOST);
            long got = CALLS.ask(z, call.name, call.args);
            if (due != null) {
                probe.due(quote + ": " + call, due, got);
            }
            boolean fault = call.name.equals("text") && got == -1;
            if (fault || !CHANGERS.contains(call.name) || isRefused(call.name, got)) {
                asIfNotMade(call, fault);
            }
            if (fault || (CHANGERS.contains(call.name) && !isRefused(call.name, got))) {
                kept.add(call);
                known = null;
            }
        }

        private boolean isRefused(String name, long got) {
            return got < 0 || (name.equals("lay") && got == 0);
        }

        /** Behind a text with a fault just the fault and the tape are others. */
        private void asIfNotMade(Call call, boolean fault) {
            List<Call> questions = questions(z);
            if (known == null || fault) {
                known = answers(questions, null, fault);
            }
            long[] now = answers(questions, call, fault);
            for (int k = 0; k < now.length; k++) {
                if (now[k] != known[k]) {
                    String asked = k < questions.size() ? questions.get(k).toString() : "undone";
                    probe.due(quote + ": behind " + call + " " + asked, known[k], now[k]);
                }
            }
            probe.holds(quote + ": behind " + call + " all is the same", Arrays.equals(known, now));
        }

        /** What all the questions are answered behind the kept calls and one call more, on as many objects as that takes. */
        private long[] answers(List<Call> questions, Call more, boolean fault) {
            List<Long> all = new ArrayList<>();
            int next = 0;
            while (next < questions.size()) {
                ClockZones fresh = fresh(more);
                int room = Calls.MOST - kept.size() - 1;
                for (int k = 0; k < room && next < questions.size(); k++) {
                    Call q = questions.get(next);
                    boolean free = fault && (q.name.equals("fault") || (q.name.equals("count") && q.args[0] == 7));
                    all.add(free ? 0 : CALLS.ask(fresh, q.name, q.args));
                    next++;
                }
                if (room <= 0) {
                    throw new IllegalStateException(quote + ": a story too long to be told again");
                }
            }
            undone(all, fresh(more));
            long[] row = new long[all.size()];
            for (int k = 0; k < row.length; k++) {
                row[k] = all.get(k);
            }
            return row;
        }

        private ClockZones fresh(Call more) {
            ClockZones fresh = new ClockZones();
            run(fresh, kept);
            if (more != null) {
                CALLS.ask(fresh, more.name, more.args);
            }
            return fresh;
        }

        private void undone(List<Long> all, ClockZones fresh) {
            int room = Calls.MOST - kept.size() - 1;
            for (int k = 0; k < 17 && room >= 24; k++) {
                all.add((long) fresh.undo());
                all.add((long) fresh.trace(-1));
                all.add((long) fresh.trace(fresh.trace(-1) - 1));
                for (int t = 0; t < 4; t++) {
                    for (int x = 0; x < 4; x++) {
                        all.add((long) fresh.bound(t, x, -1, 0));
                    }
                    all.add((long) fresh.bound(t, -1, t % 2, 0));
                }
                room -= 24;
            }
        }
    }

    private static List<Call> questions(ClockZones z) {
        List<Call> all = new ArrayList<>();
        int clocks = z.count(1);
        for (int what = 0; what < 8; what++) {
            all.add(new Call("count", what));
        }
        all.add(new Call("fault", 0));
        all.add(new Call("fault", 1));
        for (String name : new String[] {"nodes", "stuck", "reached", "can", "breaks"}) {
            all.add(new Call(name));
        }
        all.add(new Call("deepest", 0));
        all.add(new Call("deepest", 1));
        for (int x = 0; x < clocks; x++) {
            all.add(new Call("great", x));
            all.add(new Call("tells", x, 0));
            all.add(new Call("tells", x, 1));
            all.add(new Call("tells", x, 2));
        }
        places(all, z.count(2));
        edges(all, z.count(3));
        nodes(all, z.nodes(), clocks);
        tables(all, clocks);
        traces(all, z.count(5));
        return all;
    }

    private static void places(List<Call> all, int places) {
        for (int p = 0; p < places; p++) {
            for (int what = 0; what < 5; what++) {
                all.add(new Call("place", p, what));
            }
            for (int i = -1; i < 3; i++) {
                all.add(new Call("way", p, i));
            }
            all.add(new Call("leads", p));
            all.add(new Call("fastest", p, 0));
            all.add(new Call("longest", 0, p, 0));
            all.add(new Call("longest", 1, p, 1));
        }
    }

    private static void edges(List<Call> all, int edges) {
        for (int e = 0; e < edges; e++) {
            for (int what = 0; what < 5; what++) {
                all.add(new Call("edge", e, what));
            }
            for (int what = 0; what < 3; what++) {
                all.add(new Call("when", e, e % 2, what));
            }
            all.add(new Call("set", e, 0, 0));
            all.add(new Call("set", e, 0, 1));
            all.add(new Call("soonest", 0, e, 0));
            all.add(new Call("soonest", 1, e, 1));
        }
    }

    private static void nodes(List<Call> all, int nodes, int clocks) {
        for (int k = 0; k < nodes; k += 1 + nodes / 8) {
            for (int what = 0; what < 4; what++) {
                all.add(new Call("node", k, what));
            }
            all.add(new Call("open", k));
            for (int x = 0; x < clocks; x++) {
                all.add(new Call("nodeBound", k, x, -1, 0));
                all.add(new Call("nodeBound", k, -1, x, 1));
            }
        }
    }

    private static void tables(List<Call> all, int clocks) {
        for (int t = 0; t < 4; t++) {
            all.add(new Call("empty", t));
            all.add(new Call("single", t));
            all.add(new Call("whole", t, 3));
            all.add(new Call("has", t, 0, 0, 0, 0));
            for (int what = 0; what < 3; what++) {
                all.add(new Call("pairs", t, what));
            }
            for (int u = 0; u < 4; u++) {
                all.add(new Call("within", t, u));
                all.add(new Call("touch", t, u));
            }
            for (int x = -1; x < clocks; x++) {
                all.add(new Call("first", t, x));
                for (int y = -1; y < clocks; y++) {
                    all.add(new Call("bound", t, x, y, 0));
                    all.add(new Call("bound", t, x, y, 1));
                }
                all.add(new Call("width", t, x, (x + 2) % (clocks + 1) - 1, 0));
            }
        }
    }

    private static void traces(List<Call> all, int edges) {
        for (int i = -1; i <= edges; i++) {
            all.add(new Call("trace", i));
            all.add(new Call("moment", i));
            for (int what = 0; what < 4; what++) {
                all.add(new Call("window", i, what));
                all.add(new Call("between", i, i + 1, what));
                all.add(new Call("value", i, i % 2, what));
            }
        }
    }
}
