/** What the tests share: counting of wrong answers, and texts fed as words. */
final class Probe {
    private final String title;
    private int asked = 0;
    private int wrong = 0;

    Probe(String title) {
        this.title = title;
    }

    void due(String what, long want, long got) {
        asked++;
        if (want != got) {
            wrong++;
            if (wrong <= 40) {
                System.out.println(what + " answered " + got + ", due is " + want);
            }
        }
    }

    void holds(String what, boolean held) {
        due(what, 1, held ? 1 : 0);
    }

    int wrongSoFar() {
        return wrong;
    }

    void end() {
        System.out.println(title + ": " + asked + " answers, " + wrong + " wrong");
        if (wrong != 0 || asked == 0) {
            System.exit(1);
        }
    }

    /** Feeds a text, filled up with blanks, and reads just its own bytes. */
    static int tell(ClockZones zones, String text) {
        feedAll(zones, text);
        return zones.text(text.length());
    }

    static void feedAll(ClockZones zones, String text) {
        for (int i = 0; i < text.length(); i += 20) {
            zones.feed(four(text, i), four(text, i + 4), four(text, i + 8), four(text, i + 12), four(text, i + 16));
        }
    }

    private static int four(String text, int at) {
        int number = 0;
        for (int k = at; k < at + 4; k++) {
            number = number << 8 | (k < text.length() ? text.charAt(k) & 255 : 32);
        }
        return number;
    }

    static ClockZones of(String text) {
        ClockZones zones = new ClockZones();
        if (tell(zones, text) < 0) {
            throw new IllegalStateException("fault " + zones.fault(0) + " at " + zones.fault(1) + " in " + text);
        }
        return zones;
    }
}
