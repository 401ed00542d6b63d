import java.util.ArrayList;
import java.util.LinkedHashMap;
import java.util.List;
import java.util.Map;

/**
 * All that calls can bring to light of an object behind some calls, in parts. Looking at some parts
 * changes others, so each look is at an object of its own, to which the same calls have been made.
 */
final class Probe {
    private final List<EdgeScript.Step> steps;
    private final Map<String, List<Integer>> parts = new LinkedHashMap<>();

    private Probe(List<EdgeScript.Step> itsSteps) {
        steps = itsSteps;
    }

    static Map<String, List<Integer>> of(List<EdgeScript.Step> steps) {
        Probe probe = new Probe(steps);
        probe.lookAt("", false);
        probe.lookAt("kept ", true);
        return probe.parts;
    }

    private Player player(boolean restored) {
        Player p = new Player();
        for (EdgeScript.Step step : steps) {
            p.ask(step.name(), step.arguments());
        }
        if (restored) {
            p.ask("restore");
        }
        return p;
    }

    private void lookAt(String of, boolean restored) {
        if (restored) {
            int answer = player(false).ask("restore");
            note("kept", answer);
            if (answer == Due.NONE) {
                return;
            }
        }
        plainParts(of, player(restored));
        tapeAndWaiting(of, player(restored));
        if (!restored) {
            sheets(player(false));
        }
    }

    private void note(String part, int answer) {
        parts.computeIfAbsent(part, k -> new ArrayList<>()).add(answer);
    }

    private void plainParts(String of, Player p) {
        if (of.isEmpty()) {
            for (int k = 1; k <= 5; k++) {
                note("told", p.ask("told", k));
            }
            int bodies = p.ask("count", 6);
            note("trace", bodies);
            for (int i = 0; i < bodies; i++) {
                note("trace", p.ask("trace", i));
            }
        }
        for (int what = 0; what < 6; what++) {
            note(of + "machine", p.ask("machine", what));
        }
        note(of + "second", p.ask("count", 1));
        note(of + "z", p.ask("count", 7));
        note(of + "tape", p.ask("count", 4));
        note(of + "waiting", p.ask("count", 5));
        int cloths = p.ask("count", 0);
        note(of + "cloths", cloths);
        note(of + "cloths", p.ask("count", 2));
        note(of + "cloths", p.ask("count", 3));
        for (int i = 0; i < cloths; i++) {
            for (int what = 0; what < 5; what++) {
                note(of + "cloths", p.ask("ofCloth", i, what));
            }
        }
        laws(of + "texts", p, 0);
        laws(of + "texts", p, 1);
        if (of.isEmpty()) {
            note("images", p.ask("image"));
        }
    }

    private void laws(String part, Player p, int use) {
        int[][] names = {{0, 0, 0}, {1, 2, 3}, {5, 3, 1}, {-4, 7, 20}, {9, 9, 99}};
        for (int[] n : names) {
            note(part, p.ask("law", use, n[0], n[1], n[2]));
        }
    }

    /** What a TEXT from THE TAPE would give, and whether the numbers that wait begin with 0, 1, 2, 3, 4. */
    private void tapeAndWaiting(String of, Player p) {
        note(of + "tape", p.ask("text", 0));
        laws(of + "tape text", p, 0);
        p.ask("feed", EdgeScript.word("5"), 1);
        p.ask("text", 0);
        p.ask("cloth", 60, 0);
        p.ask("become", 0, 60);
        p.ask("set", 4, 0);
        p.ask("set", 2, 0);
        p.ask("image");
        int[][] machines = {{0, 5, 0}, {0, 0, 0}, {0, 9, 0}, {0, 5, 2}, {1, 5, 0}};
        for (int[] m : machines) {
            p.ask("restore");
            p.ask("set", 0, m[0]);
            p.ask("set", 1, m[1]);
            p.ask("set", 3, m[2]);
            note(of + "waiting", p.ask("check"));
        }
    }

    /** A number of 0 to 9 shows itself as the THICK of a cloth; another one as -1. */
    private void sheets(Player p) {
        for (int i = 0; i < 6; i++) {
            p.ask("cloth", 0, 0);
        }
        for (int sheet = 0; sheet < 4; sheet++) {
            for (int other = sheet; other < 4; other++) {
                note("sheets", p.ask("move", sheet, 0, other, 0, 0));
            }
            int length = length(p, sheet);
            note("sheets", length);
            for (int at = 0; at < length; ) {
                p.ask("move", sheet, at, sheet, 0, Math.min(6, length - at));
                int seen = p.ask("thicks", sheet);
                for (int i = 0; i < seen && at < length; i++) {
                    note("sheets", p.ask("ofCloth", i, 2));
                    at++;
                }
                if (seen < 6 && at < length) {
                    note("sheets", -1);
                    at++;
                }
            }
        }
    }

    private static int length(Player p, int sheet) {
        int least = -1;
        int above = 41;
        while (above - least > 1) {
            int n = (least + above) / 2;
            if (p.ask("move", sheet, 0, sheet, 0, n) == n) {
                least = n;
            } else {
                above = n;
            }
        }
        return least;
    }
}
