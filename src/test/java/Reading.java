import java.util.ArrayList;
import java.util.Arrays;
import java.util.HashSet;
import java.util.List;
import java.util.Set;
import java.util.regex.Matcher;
import java.util.regex.Pattern;

/** A text read by regular expressions: its fault, and what it tells, as rows of numbers. */
final class Reading {
    private static final Pattern TOKEN = Pattern.compile("[a-z]+|[0-9]+|<=|>=|[<>=;]");
    private static final Set<String> KEYS = new HashSet<>(Arrays.asList("clock", "place", "edge", "start", "when", "set"));
    private static final List<String> RELS = Arrays.asList("<", "<=", "=", ">=", ">");

    int fault = 0;
    int faultAt = -1;
    int lines = 0;
    int start = 0;
    final List<String> clocks = new ArrayList<>();
    final List<String> places = new ArrayList<>();
    /** Of each PLACE, of each EDGE its whens: clock, REL, number. */
    final List<List<int[]>> stays = new ArrayList<>();
    final List<List<int[]>> whens = new ArrayList<>();
    /** Of each EDGE its sets: clock, number. */
    final List<List<int[]>> sets = new ArrayList<>();
    /** From which PLACE to which. */
    final List<int[]> edges = new ArrayList<>();

    private final List<String> tokens = new ArrayList<>();
    private final List<Integer> starts = new ArrayList<>();
    private int at = 0;
    private boolean started = false;

    /** An empty token is the end; "?" one that is none. */
    Reading(String text) {
        Matcher matcher = TOKEN.matcher(text);
        int pos = 0;
        while (true) {
            while (pos < text.length() && (text.charAt(pos) == ' ' || text.charAt(pos) == '\n')) {
                pos++;
            }
            starts.add(pos);
            if (pos == text.length()) {
                tokens.add("");
                break;
            }
            if (!matcher.region(pos, text.length()).lookingAt()) {
                tokens.add("?");
                pos++;
            } else {
                String t = matcher.group();
                tokens.add(Character.isLetter(t.charAt(0)) && t.length() > 6 ? "?" : t);
                pos = matcher.end();
            }
        }
        read();
    }

    private String now() {
        return tokens.get(at);
    }

    private boolean isName() {
        return !now().isEmpty() && Character.isLetter(now().charAt(0)) && !KEYS.contains(now());
    }

    /** Goes on if the condition holds, else blames; behind a fault nothing moves. */
    private void want(boolean held, int kind) {
        if (fault == 0 && !held) {
            fault = kind;
            faultAt = starts.get(at);
        }
    }

    private void move() {
        if (fault == 0) {
            at++;
        }
    }

    private boolean goesOn(String key) {
        return fault == 0 && now().equals(key);
    }

    private void read() {
        while (fault == 0 && !now().isEmpty()) {
            String key = now();
            if (key.equals("clock")) {
                want(clocks.size() < 4, 2);
                move();
                name(clocks);
            } else if (key.equals("place")) {
                want(places.size() < 8, 2);
                move();
                name(places);
                stays.add(readWhens());
            } else if (key.equals("edge")) {
                want(edges.size() < 16, 2);
                move();
                edges.add(new int[] {told(places), told(places)});
                whens.add(readWhens());
                sets.add(readSets());
            } else if (key.equals("start")) {
                want(!started, 3);
                started = true;
                move();
                start = told(places);
            } else {
                want(false, 1);
            }
            want(now().equals(";"), 1);
            move();
            lines++;
        }
        want(!places.isEmpty(), 4);
    }

    private void name(List<String> names) {
        want(isName(), 1);
        want(fault != 0 || !names.contains(now()), 3);
        if (fault == 0) {
            names.add(now());
        }
        move();
    }

    private int told(List<String> names) {
        want(isName() && names.contains(now()), 1);
        int which = names.indexOf(now());
        move();
        return which;
    }

    private int number() {
        want(now().matches("[0-9]+"), 1);
        want(fault != 0 || now().matches("0*([0-9]|[1-4][0-9]|50)"), 2);
        int n = fault == 0 ? Integer.parseInt(now().replaceFirst("^0+(?=[0-9])", "")) : 0;
        move();
        return n;
    }

    private List<int[]> readWhens() {
        List<int[]> all = new ArrayList<>();
        while (goesOn("when")) {
            want(all.size() < 6, 2);
            move();
            int clock = told(clocks);
            want(RELS.contains(now()), 1);
            int rel = RELS.indexOf(now());
            move();
            all.add(new int[] {clock, rel, number()});
        }
        return all;
    }

    private List<int[]> readSets() {
        List<int[]> all = new ArrayList<>();
        List<String> seen = new ArrayList<>();
        while (goesOn("set")) {
            want(all.size() < 4, 2);
            move();
            want(isName() && clocks.contains(now()), 1);
            want(fault != 0 || !seen.contains(now()), 3);
            seen.add(now());
            all.add(new int[] {told(clocks), number()});
        }
        return all;
    }
}
