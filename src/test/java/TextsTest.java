import java.util.ArrayList;
import java.util.Arrays;
import java.util.HashSet;
import java.util.List;
import java.util.Random;
import java.util.Set;
import java.util.regex.Matcher;
import java.util.regex.Pattern;

/** Faults of texts, spoilt at random, beside a reading by regular expressions. */
public final class TextsTest {
    private static final Probe PROBE = new Probe("texts beside another reading");
    private static final Pattern TOKEN = Pattern.compile("[a-z]+|[0-9]+|<=|>=|[<>=;]");
    private static final Set<String> KEYS = new HashSet<>(Arrays.asList("clock", "place", "edge", "start", "when", "set"));
    private static final String[] PIECES = {"clock", "place", "edge", "start", "when", "set", "a", "b", "c", "x", "y", "abcdef",
        "abcdefg", "<", "<=", "=", ">=", ">", ";", "0", "7", "50", "51", "007", "!", "A", "\t", " ", "\n", "\u00e9", "when x<1", "set y 2",
        "place d;", "clock z;", "edge a b;", "start a;"};

    private final List<String> tokens = new ArrayList<>();
    private final List<Integer> starts = new ArrayList<>();
    private int at = 0;
    private int fault = 0;
    private int faultAt = -1;
    private int lines = 0;
    private final List<String> clocks = new ArrayList<>();
    private final List<String> places = new ArrayList<>();
    private int edges = 0;
    private boolean started = false;

    /** An empty token is the end; "?" one that is none. */
    private TextsTest(String text) {
        Matcher matcher = TOKEN.matcher(text);
        int pos = 0;
        while (true) {
            while (pos < text.length() && (text.charAt(pos) == ' ' || text.charAt(pos) == '\n')) {
                pos++;
            }
            starts.add(pos);
            if (pos == text.length()) {
                tokens.add("");
                break;
            }
            if (!matcher.region(pos, text.length()).lookingAt()) {
                tokens.add("?");
                pos++;
            } else {
                String t = matcher.group();
                tokens.add(Character.isLetter(t.charAt(0)) && t.length() > 6 ? "?" : t);
                pos = matcher.end();
            }
        }
        read();
    }

    private String now() {
        return tokens.get(at);
    }

    private void blame(int kind) {
        if (fault == 0) {
            fault = kind;
            faultAt = starts.get(at);
        }
    }

    private boolean isName() {
        return !now().isEmpty() && Character.isLetter(now().charAt(0)) && !KEYS.contains(now());
    }

    /** Goes on if the condition holds, else blames; behind a fault nothing moves. */
    private void want(boolean held, int kind) {
        if (fault == 0 && !held) {
            blame(kind);
        }
    }

    private void move() {
        if (fault == 0) {
            at++;
        }
    }

    private boolean goesOn(String key) {
        return fault == 0 && now().equals(key);
    }

    private void read() {
        while (fault == 0 && !now().isEmpty()) {
            String key = now();
            if (key.equals("clock")) {
                want(clocks.size() < 4, 2);
                move();
                name(clocks);
            } else if (key.equals("place")) {
                want(places.size() < 8, 2);
                move();
                name(places);
                whens();
            } else if (key.equals("edge")) {
                want(edges < 16, 2);
                move();
                told(places);
                told(places);
                edges++;
                whens();
                sets();
            } else if (key.equals("start")) {
                want(!started, 3);
                started = true;
                move();
                told(places);
            } else {
                blame(1);
            }
            want(now().equals(";"), 1);
            move();
            lines++;
        }
        want(!places.isEmpty(), 4);
    }

    private void name(List<String> names) {
        want(isName(), 1);
        want(fault != 0 || !names.contains(now()), 3);
        if (fault == 0) {
            names.add(now());
        }
        move();
    }

    private void told(List<String> names) {
        want(isName() && names.contains(now()), 1);
        move();
    }

    private void number() {
        want(now().matches("[0-9]+"), 1);
        want(fault != 0 || now().matches("0*([0-9]|[1-4][0-9]|50)"), 2);
        move();
    }

    private void whens() {
        int many = 0;
        while (goesOn("when")) {
            want(many < 6, 2);
            move();
            told(clocks);
            want(now().matches("<=?|>=?|="), 1);
            move();
            number();
            many++;
        }
    }

    private void sets() {
        List<String> seen = new ArrayList<>();
        while (goesOn("set")) {
            want(seen.size() < 4, 2);
            move();
            want(isName() && clocks.contains(now()), 1);
            want(fault != 0 || !seen.contains(now()), 3);
            seen.add(now());
            move();
            number();
        }
    }

    private static String spoil(Random dice, String text) {
        StringBuilder b = new StringBuilder(text);
        for (int k = dice.nextInt(4); k > 0 && b.length() > 0; k--) {
            int i = dice.nextInt(b.length());
            switch (dice.nextInt(4)) {
                case 0:
                    b.deleteCharAt(i);
                    break;
                case 1:
                    b.insert(i, PIECES[dice.nextInt(PIECES.length)]);
                    break;
                case 2:
                    b.setLength(i);
                    break;
                default:
                    b.insert(i, " " + PIECES[dice.nextInt(PIECES.length)] + " ");
            }
        }
        return b.toString();
    }

    private static String random(Random dice) {
        StringBuilder b = new StringBuilder();
        for (int k = dice.nextInt(12); k > 0; k--) {
            b.append(PIECES[dice.nextInt(PIECES.length)]).append(dice.nextBoolean() ? " " : "");
        }
        return b.toString();
    }

    public static void main(String[] args) {
        int[] kinds = new int[5];
        for (int seed = 0; seed < 20000 && PROBE.wrongSoFar() < 5; seed++) {
            Random dice = new Random(seed);
            String text = dice.nextInt(5) == 0 ? random(dice) : spoil(dice, new Sketch(dice, 8, 16, 53).text());
            if (text.length() > 880) {
                continue;
            }
            TextsTest want = new TextsTest(text);
            ClockZones z = new ClockZones();
            PROBE.due("lines of " + text, want.fault == 0 ? want.lines : -1, Probe.tell(z, text));
            PROBE.due("fault of " + text, want.fault, z.fault(0));
            PROBE.due("fault's place of " + text, want.fault == 0 ? -1 : want.faultAt, z.fault(1));
            kinds[want.fault]++;
            if (want.fault == 0) {
                PROBE.due("clocks of " + text, want.clocks.size(), z.count(1));
                PROBE.due("places of " + text, want.places.size(), z.count(2));
                PROBE.due("edges of " + text, want.edges, z.count(3));
            }
        }
        for (int kind = 0; kind < 5; kind++) {
            PROBE.holds("texts of fault " + kind + " were tried", kinds[kind] > 20);
        }
        PROBE.end();
    }
}
