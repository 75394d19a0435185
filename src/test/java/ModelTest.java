import java.util.ArrayList;
import java.util.Arrays;
import java.util.HashMap;
import java.util.List;
import java.util.Map;
import java.util.Random;

/** Runs of 512 calls, drawn at random, with any arguments: each answer beside that of the model. */
public final class ModelTest {
    private static final Probe PROBE = new Probe("runs of 512 calls beside the model");
    private static final Calls FACE = new Calls(ClockZones.class);
    private static final Calls OTHER = new Calls(Model.class);
    private static final String[] RELS = {"<", "<=", "=", ">=", ">"};

    /**
     * What each argument is: t table, x clock, z clock or NONE, p place, q place or NONE, e edge, k node, i edge of the trace,
     * j that or NONE, r REL, n -100 .. 100, s 0 .. 50, m 0 .. 9, h halves, a digit: a what below it, f a byte or four.
     */
    private static final String[] KINDS = {"feed fffff", "text b", "fault 2", "place p5", "edge e5", "when ew3", "set ew2", "great x", "lay t3",
        "meet tzzrn", "pass t2", "reset txs", "free tx", "copy tt", "join tt", "both tt", "step te", "stay tp", "rough t", "take tk", "undo ",
        "bound tzz2", "empty t", "within tt", "has thhhh", "pairs t3", "whole tm", "first tx", "nodes ", "node k4", "nodeBound kzz2", "way pj",
        "open k", "stuck ", "reached ", "add e", "lead q", "trace j", "can ", "window i4", "between ii4", "value ix4", "breaks ", "width tzz2",
        "touch tt", "back te", "longest tp2", "soonest te2", "leads p", "fastest p2", "moment i", "deepest 2", "tells x3", "single t", "count 8"};
    private static final String[] OFTEN = {"meet", "meet", "meet", "meet", "lay", "pass", "reset", "free", "step", "stay", "back", "join", "both",
        "add", "add", "add", "window", "between", "value", "moment", "bound", "bound", "undo", "pairs", "first", "soonest", "longest"};
    private static final Map<String, String> ARGUMENTS = new HashMap<>();

    private final Random dice;
    private final ClockZones face = new ClockZones();
    private final Model model = new Model();
    private final List<String> story = new ArrayList<>();
    private int used = 0;

    private ModelTest(long seed) {
        dice = new Random(seed);
    }

    // ---- texts ----

    private int numberOf(int most) {
        return dice.nextInt(4) == 0 ? most : dice.nextInt(most + 1);
    }

    private String rules(int clocks, int most, boolean stay) {
        StringBuilder text = new StringBuilder();
        int many = clocks == 0 ? 0 : dice.nextInt(10) == 0 ? dice.nextInt(7) : dice.nextInt(3);
        for (int k = 0; k < many; k++) {
            int rel = stay && dice.nextInt(5) > 0 ? dice.nextInt(2) : dice.nextInt(5);
            text.append("when ").append((char) ('a' + dice.nextInt(clocks))).append(RELS[rel]).append(numberOf(most));
        }
        return text.toString();
    }

    private String text() {
        int clocks = dice.nextInt(15) == 0 ? 0 : 1 + (dice.nextInt(8) + 1) * 3 / 8;
        int places = 1 + dice.nextInt(dice.nextInt(4) == 0 ? 8 : 4);
        int edges = dice.nextInt(12) == 0 ? 0 : 1 + dice.nextInt(dice.nextInt(4) == 0 ? 16 : 8);
        int most = dice.nextInt(3) == 0 ? 50 : 1 + dice.nextInt(9);
        StringBuilder text = new StringBuilder();
        for (int c = 0; c < clocks; c++) {
            text.append("clock ").append((char) ('a' + c)).append(";");
        }
        for (int p = 0; p < places; p++) {
            text.append("place ").append((char) ('a' + p)).append(" ").append(dice.nextInt(3) == 0 ? rules(clocks, most, true) : "").append(";");
        }
        for (int e = 0; e < edges; e++) {
            text.append("edge ").append((char) ('a' + dice.nextInt(places))).append(" ").append((char) ('a' + dice.nextInt(places))).append(" ");
            text.append(rules(clocks, most, false));
            for (int c = 0; c < clocks; c++) {
                if (dice.nextInt(3) == 0) {
                    text.append("set ").append((char) ('a' + c)).append(" ").append(dice.nextBoolean() ? 0 : numberOf(most));
                }
            }
            text.append(";");
        }
        if (dice.nextBoolean()) {
            text.append("start ").append((char) ('a' + dice.nextInt(places))).append(";");
        }
        return dice.nextInt(8) == 0 ? TextsTest.spoil(dice, text.toString()) : text.toString();
    }

    /** Feeds a text and reads it; sometimes too few or too many of its bytes. */
    private void tell() {
        String text = text();
        if (model.count(7) > 0) {
            ask("text", 0);
        }
        for (int i = 0; i < text.length() && i < 900; i += 20) {
            int[] five = new int[5];
            for (int k = 0; k < 20; k++) {
                five[k / 4] = five[k / 4] << 8 | (i + k < text.length() ? text.charAt(i + k) & 255 : 32);
            }
            ask("feed", five);
        }
        int bytes = Math.min(900, text.length());
        switch (dice.nextInt(12)) {
            case 0:
                ask("text", dice.nextInt(920));
                break;
            case 1:
                ask("text", dice.nextInt(bytes + 1));
                break;
            default:
                ask("text", bytes);
        }
    }

    // ---- calls ----

    private boolean ask(String name, int... args) {
        if (used >= Calls.MOST || PROBE.wrongSoFar() > 0) {
            return false;
        }
        used++;
        story.add(name + Arrays.toString(args));
        long want = OTHER.ask(model, name, args);
        long got = FACE.ask(face, name, args);
        if (want != got) {
            for (String line : story) {
                System.out.println(line);
            }
        }
        PROBE.due(name + Arrays.toString(args) + " as call " + used, want, got);
        return true;
    }

    private int among(int below, int least) {
        switch (dice.nextInt(30)) {
            case 0:
                return least - 1;
            case 1:
                return below;
            case 2:
                return dice.nextInt(6) == 0 ? Integer.MIN_VALUE : dice.nextInt(5) == 0 ? Integer.MAX_VALUE : dice.nextInt();
            default:
                return below > least ? least + dice.nextInt(below - least) : least;
        }
    }

    private int edgeOfTrace() {
        int end = model.trace(-1) == 0 ? model.count(4) : model.edge(model.trace(model.trace(-1) - 1), 1);
        int e = among(model.count(3), 0);
        for (int k = 0; k < 20 && e >= 0 && e < model.count(3) && model.edge(e, 0) != end; k++) {
            e = among(model.count(3), 0);
        }
        return e;
    }

    private int argument(char kind) {
        switch (kind) {
            case 't':
                return among(4, 0);
            case 'x':
                return among(model.count(1), 0);
            case 'z':
                return among(model.count(1), -1);
            case 'p':
                return among(model.count(2), 0);
            case 'q':
                return among(model.count(2), -1);
            case 'e':
                return among(model.count(3), 0);
            case 'k':
                return among(model.nodes(), 0);
            case 'i':
                return among(model.count(5), 0);
            case 'j':
                return among(Math.max(3, model.count(5)), -1);
            case 'w':
                return among(3, 0);
            case 'r':
                return among(5, 0);
            case 'n':
                return dice.nextInt(4) == 0 ? among(101, -100) : dice.nextInt(3) == 0 ? 100 - 200 * dice.nextInt(2) : among(12, -6);
            case 's':
                return dice.nextBoolean() ? among(51, 0) : among(6, 0);
            case 'm':
                return among(10, 0);
            case 'h':
                return dice.nextInt(8) == 0 ? among(2000, 0) : dice.nextInt(20);
            case 'b':
                return among(model.count(7) + 1, 0);
            case 'f':
                return dice.nextInt();
            default:
                return among(kind - '0', 0);
        }
    }

    private void call(String name) {
        String kinds = ARGUMENTS.get(name);
        int[] args = new int[kinds.length()];
        for (int k = 0; k < args.length; k++) {
            args[k] = argument(kinds.charAt(k));
        }
        int pair = kinds.indexOf("zz");
        for (int k = 0; k < 5 && pair >= 0 && args[pair] == args[pair + 1]; k++) {
            args[pair + 1] = argument('z');
        }
        if (name.equals("add") && model.count(3) > 0 && dice.nextInt(5) > 0) {
            args[0] = edgeOfTrace();
        }
        if (name.equals("meet") && dice.nextInt(3) > 0) {
            sensible(args);
        }
        ask(name, args);
    }

    /** A meet that leaves something: above 0 for a clock, below it for ZERO less a clock. */
    private void sensible(int[] meet) {
        boolean zeroFirst = meet[1] == -1;
        if ((zeroFirst && meet[4] > 0) || (meet[2] == -1 && meet[4] < 0)) {
            meet[4] = -meet[4];
        }
    }

    /** Clock b gets far ahead of a, by hundreds, so that bounds come near to 400. */
    private void far() {
        int t = dice.nextInt(4);
        int a = dice.nextInt(Math.max(1, model.count(1)));
        ask("lay", t, 0);
        ask("pass", t, 0);
        int rounds = 1 + dice.nextInt(5);
        for (int k = 0; k < rounds; k++) {
            ask("meet", t, a, -1, 2 + dice.nextInt(2), dice.nextInt(3) == 0 ? 99 : 100);
            ask("reset", t, a, dice.nextInt(3) == 0 ? 1 : 0);
            ask("pass", t, 0);
        }
    }

    private void run() {
        String[] names = ARGUMENTS.keySet().stream().sorted().toArray(String[]::new);
        if (dice.nextInt(10) > 0) {
            tell();
        }
        while (used < Calls.MOST && PROBE.wrongSoFar() == 0) {
            int kind = dice.nextInt(200);
            if (kind == 0) {
                tell();
            } else if (kind < 3) {
                far();
            } else if (kind < 5) {
                ask("lead", among(model.count(2), -1));
            } else {
                String name = dice.nextInt(5) < 3 ? OFTEN[dice.nextInt(OFTEN.length)] : names[dice.nextInt(names.length)];
                // A text read from what was fed at random is no text, and takes away the tape.
                if (!name.equals("text") && !name.equals("feed") || dice.nextInt(20) == 0) {
                    call(name);
                }
            }
        }
    }

    public static void main(String[] args) {
        for (String k : KINDS) {
            ARGUMENTS.put(k.substring(0, k.indexOf(' ')), k.substring(k.indexOf(' ') + 1));
            PROBE.due("arguments of " + k, FACE.arity(k.substring(0, k.indexOf(' '))), k.length() - k.indexOf(' ') - 1);
        }
        PROBE.due("calls of the face", FACE.names().size(), ARGUMENTS.size());
        PROBE.due("calls of the model", FACE.names().size(), OTHER.names().size());
        int first = args.length > 0 ? Integer.parseInt(args[0]) : 0;
        int many = args.length > 1 ? Integer.parseInt(args[1]) : 600;
        for (int seed = first; seed < first + many && PROBE.wrongSoFar() == 0; seed++) {
            new ModelTest(seed).run();
        }
        PROBE.end();
    }
}
