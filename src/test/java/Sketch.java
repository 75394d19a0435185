import java.util.ArrayList;
import java.util.List;
import java.util.Random;

/** A random text of two clocks, and what it tells, as rows of numbers. */
final class Sketch {
    final int places;
    final int start;
    final int[][][] stays;
    final int[] from;
    final int[] to;
    final int[][][] whens;
    final int[][][] sets;
    final int[] great = {0, 0};
    private static final String[] RELS = {"<", "<=", "=", ">=", ">"};

    Sketch(Random dice, int mostPlaces, int mostEdges, int mostNumber) {
        places = 1 + dice.nextInt(mostPlaces);
        stays = new int[places][][];
        for (int p = 0; p < places; p++) {
            stays[p] = rules(dice, dice.nextInt(3), mostNumber, true);
        }
        start = dice.nextInt(places);
        int edges = 1 + dice.nextInt(mostEdges);
        from = new int[edges];
        to = new int[edges];
        whens = new int[edges][][];
        sets = new int[edges][][];
        for (int e = 0; e < edges; e++) {
            from[e] = dice.nextInt(places);
            to[e] = dice.nextInt(places);
            whens[e] = rules(dice, dice.nextInt(3), mostNumber, false);
            sets[e] = sets(dice, mostNumber);
        }
    }

    private int[][] rules(Random dice, int many, int mostNumber, boolean stay) {
        int[][] rules = new int[many][];
        for (int k = 0; k < many; k++) {
            int rel = dice.nextInt(5);
            if (stay && dice.nextInt(6) > 0) {
                rel = dice.nextInt(2);
            }
            rules[k] = new int[] {dice.nextInt(2), rel, dice.nextInt(mostNumber + 1)};
            great[rules[k][0]] = Math.max(great[rules[k][0]], rules[k][2]);
        }
        return rules;
    }

    private int[][] sets(Random dice, int mostNumber) {
        List<int[]> all = new ArrayList<>();
        for (int c = 0; c < 2; c++) {
            if (dice.nextInt(5) < 2) {
                int n = dice.nextInt(3) == 0 ? dice.nextInt(mostNumber + 1) : 0;
                all.add(new int[] {c, n});
                great[c] = Math.max(great[c], n);
            }
        }
        return all.toArray(new int[0][]);
    }

    private static void tellRules(StringBuilder text, int[][] rules) {
        for (int[] r : rules) {
            text.append(" when ").append((char) ('x' + r[0])).append(RELS[r[1]]).append(r[2]);
        }
    }

    String text() {
        StringBuilder text = new StringBuilder("clock x;clock y;");
        for (int p = 0; p < places; p++) {
            text.append("place ").append((char) ('a' + p));
            tellRules(text, stays[p]);
            text.append(";");
        }
        for (int e = 0; e < from.length; e++) {
            text.append("edge ").append((char) ('a' + from[e])).append(" ").append((char) ('a' + to[e]));
            tellRules(text, whens[e]);
            for (int[] s : sets[e]) {
                text.append(" set ").append((char) ('x' + s[0])).append(" ").append(s[1]);
            }
            text.append(";");
        }
        return text.append("start ").append((char) ('a' + start)).append(";").toString();
    }
}
