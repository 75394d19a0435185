import java.lang.reflect.Constructor;
import java.lang.reflect.Field;
import java.lang.reflect.Method;
import java.lang.reflect.Modifier;
import java.nio.file.Files;
import java.nio.file.Paths;
import java.util.Arrays;
import java.util.HashSet;
import java.util.List;
import java.util.NoSuchElementException;
import java.util.Random;
import java.util.Set;
import java.util.regex.Matcher;
import java.util.regex.Pattern;

/** The face, the rules of the language that a reader can check, and calls with any arguments. */
public final class FaceTest {
    private static final Probe PROBE = new Probe("face and rules");
    private static final String[] FACE = {"feed 5", "text 1", "fault 1", "place 2", "edge 2", "when 3", "set 3", "great 1", "lay 2",
        "meet 5", "pass 2", "reset 3", "free 2", "copy 2", "join 2", "both 2", "step 2", "stay 2", "rough 1", "take 2", "undo 0",
        "bound 4", "empty 1", "within 2", "has 5", "pairs 2", "whole 2", "first 2", "nodes 0", "node 2", "nodeBound 4", "way 2",
        "open 1", "stuck 0", "reached 0", "add 1", "lead 1", "trace 1", "can 0", "window 2", "between 3", "value 3", "breaks 0",
        "width 4", "touch 2", "back 2", "longest 3", "soonest 3", "leads 1", "fastest 2", "moment 1", "deepest 1", "tells 2",
        "single 1", "count 1"};

    private static void face() {
        Set<String> want = new HashSet<>(Arrays.asList(FACE));
        Set<String> names = new HashSet<>();
        Set<String> got = new HashSet<>();
        for (String f : FACE) {
            names.add(f.substring(0, f.indexOf(' ')));
        }
        for (Method m : ClockZones.class.getDeclaredMethods()) {
            if (Modifier.isPublic(m.getModifiers())) {
                got.add(m.getName() + " " + m.getParameterCount());
                PROBE.holds(m + " answers an int", m.getReturnType() == (m.getName().equals("lay") ? boolean.class : int.class));
                PROBE.holds(m + " is of the object", !Modifier.isStatic(m.getModifiers()));
            } else {
                PROBE.holds(m + " is private", Modifier.isPrivate(m.getModifiers()));
                PROBE.holds(m + " bears another name", !names.contains(m.getName()));
            }
        }
        PROBE.holds("the face is whole: " + want, got.equals(want));
        PROBE.holds("public and final", Modifier.isPublic(ClockZones.class.getModifiers()) && Modifier.isFinal(ClockZones.class.getModifiers()));
        Constructor<?>[] constructors = ClockZones.class.getDeclaredConstructors();
        PROBE.holds("one public constructor", constructors.length == 1 && Modifier.isPublic(constructors[0].getModifiers()));
        for (Field f : ClockZones.class.getDeclaredFields()) {
            PROBE.holds(f + " is private, or NONE", Modifier.isPrivate(f.getModifiers()) || f.getName().equals("NONE"));
        }
        inside(names);
    }

    private static void inside(Set<String> names) {
        PROBE.holds("at most twelve classes", ClockZones.class.getDeclaredClasses().length < 12);
        for (Class<?> c : ClockZones.class.getDeclaredClasses()) {
            PROBE.holds(c + " is static", Modifier.isStatic(c.getModifiers()));
            int fields = 0;
            for (Field f : c.getDeclaredFields()) {
                fields += Modifier.isStatic(f.getModifiers()) ? 0 : 1;
                PROBE.holds(f + " is no state of the class", !Modifier.isStatic(f.getModifiers()) || Modifier.isFinal(f.getModifiers()));
            }
            PROBE.holds(c + " has at most twenty fields", fields <= 20);
            for (Method m : c.getDeclaredMethods()) {
                PROBE.holds(m + " bears another name", !names.contains(m.getName()));
                PROBE.holds(m + " has at most seven parameters", m.getParameterCount() <= 7);
            }
        }
    }

    private static void rules() throws Exception {
        String path = System.getProperty("clockzones.source", "src/main/java/ClockZones.java");
        List<String> lines = Files.readAllLines(Paths.get(path));
        String source = String.join("\n", lines).replaceAll("(?s)/\\*.*?\\*/", "").replaceAll("//[^\n]*", "");
        String[] banned = {"->", "::", "\\bfinally\\b", "\\btry\\b", "\\bcatch\\b", "\\bsynchronized\\b", "\\bassert\\b", "\\bpackage\\b", "Exact\\b",
            "\\bstatic\\s*\\{", "\\bSystem\\.(?!arraycopy)", "\\bMath\\.(?!min|max|abs)", "\\bArrays\\.(?!fill)", "\\bnull\\b",
            "\\b(double|float)\\b", "\\bObject\\b", "@", "\\bthrow new (?!IndexOutOfBoundsException|NoSuchElementException)"};
        for (String b : banned) {
            PROBE.holds("no " + b, !Pattern.compile(b).matcher(source).find());
        }
        Matcher imports = Pattern.compile("import ([^;]+);").matcher(source);
        while (imports.find()) {
            String name = imports.group(1);
            PROBE.holds("import " + name, name.equals("java.util.Arrays") || name.equals("java.util.NoSuchElementException"));
        }
        int begin = -1;
        for (int k = 0; k < lines.size(); k++) {
            String line = lines.get(k);
            PROBE.holds("short line " + k, line.length() <= 110);
            if (begin < 0 && line.matches(" {4,8}(public|private).*\\{")  && !line.contains(" class ")) {
                begin = k;
            }
            if (begin >= 0 && line.matches(" {4,8}\\}") && indent(line) == indent(lines.get(begin))) {
                PROBE.holds("short method at " + begin, k - begin <= 60);
                begin = -1;
            }
        }
    }

    private static int indent(String line) {
        return line.length() - line.trim().length();
    }

    private static int any(Random dice) {
        switch (dice.nextInt(12)) {
            case 0:
                return Integer.MIN_VALUE;
            case 1:
                return Integer.MAX_VALUE;
            case 2:
                return dice.nextInt();
            case 3:
                return dice.nextInt(2001) - 1000;
            default:
                return dice.nextInt(9) - 2;
        }
    }

    /** 512 calls on one object, with any arguments: only place and edge throw, and only what they may. */
    private static void anyCalls(Random dice, Method[] calls) throws Exception {
        ClockZones z = new ClockZones();
        for (int k = 0; k < 512; k++) {
            if (k % 170 == 3) {
                Probe.tell(z, new Sketch(dice, 8, 12, 50).text());
            }
            Method m = calls[dice.nextInt(calls.length)];
            Object[] args = new Object[m.getParameterCount()];
            for (int i = 0; i < args.length; i++) {
                args[i] = any(dice);
            }
            if (m.getName().equals("text") && dice.nextInt(10) > 0) {
                continue;
            }
            try {
                m.invoke(z, args);
            } catch (java.lang.reflect.InvocationTargetException e) {
                boolean may = m.getName().equals("place") || m.getName().equals("edge");
                Class<?> thrown = e.getCause().getClass();
                PROBE.holds(m.getName() + Arrays.toString(args) + " throws " + thrown,
                        may && (thrown == IndexOutOfBoundsException.class || thrown == NoSuchElementException.class));
            }
        }
    }

    public static void main(String[] args) throws Exception {
        face();
        rules();
        Method[] calls = Arrays.stream(ClockZones.class.getDeclaredMethods())
                .filter(m -> Modifier.isPublic(m.getModifiers()))
                .sorted((a, b) -> a.getName().compareTo(b.getName()))
                .toArray(Method[]::new);
        for (int seed = 0; seed < 1500 && PROBE.wrongSoFar() == 0; seed++) {
            anyCalls(new Random(seed), calls);
        }
        PROBE.end();
    }
}
