import java.util.Random;

/** Faults of texts, spoilt at random, beside another reading. */
public final class TextsTest {
    private static final Probe PROBE = new Probe("texts beside another reading");
    private static final String[] PIECES = {"clock", "place", "edge", "start", "when", "set", "a", "b", "c", "x", "y", "abcdef",
        "abcdefg", "<", "<=", "=", ">=", ">", ";", "0", "7", "50", "51", "007", "!", "A", "\t", " ", "\n", "\u00e9", "when x<1", "set y 2",
        "place d;", "clock z;", "edge a b;", "start a;"};

    static String spoil(Random dice, String text) {
        StringBuilder b = new StringBuilder(text);
        for (int k = dice.nextInt(4); k > 0 && b.length() > 0; k--) {
            int i = dice.nextInt(b.length());
            switch (dice.nextInt(4)) {
                case 0:
                    b.deleteCharAt(i);
                    break;
                case 1:
                    b.insert(i, PIECES[dice.nextInt(PIECES.length)]);
                    break;
                case 2:
                    b.setLength(i);
                    break;
                default:
                    b.insert(i, " " + PIECES[dice.nextInt(PIECES.length)] + " ");
            }
        }
        return b.toString();
    }

    private static String random(Random dice) {
        StringBuilder b = new StringBuilder();
        for (int k = dice.nextInt(12); k > 0; k--) {
            b.append(PIECES[dice.nextInt(PIECES.length)]).append(dice.nextBoolean() ? " " : "");
        }
        return b.toString();
    }

    public static void main(String[] args) {
        int[] kinds = new int[5];
        for (int seed = 0; seed < 20000 && PROBE.wrongSoFar() < 5; seed++) {
            Random dice = new Random(seed);
            String text = dice.nextInt(5) == 0 ? random(dice) : spoil(dice, new Sketch(dice, 8, 16, 53).text());
            if (text.length() > 880) {
                continue;
            }
            Reading want = new Reading(text);
            ClockZones z = new ClockZones();
            PROBE.due("lines of " + text, want.fault == 0 ? want.lines : -1, Probe.tell(z, text));
            PROBE.due("fault of " + text, want.fault, z.fault(0));
            PROBE.due("fault's place of " + text, want.faultAt, z.fault(1));
            kinds[want.fault]++;
            if (want.fault == 0) {
                PROBE.due("clocks of " + text, want.clocks.size(), z.count(1));
                PROBE.due("places of " + text, want.places.size(), z.count(2));
                PROBE.due("edges of " + text, want.edges.size(), z.count(3));
            }
        }
        for (int kind = 0; kind < 5; kind++) {
            PROBE.holds("texts of fault " + kind + " were tried", kinds[kind] > 20);
        }
        PROBE.end();
    }
}
