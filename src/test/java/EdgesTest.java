import java.io.IOException;
import java.nio.file.Files;
import java.nio.file.Path;
import java.util.ArrayList;
import java.util.List;
import java.util.Map;
import java.util.TreeMap;
import java.util.TreeSet;
import java.util.Set;
import java.util.stream.Stream;

/**
 * Promises 1 to 37 at their edges: the runs of calls under src/test/edges, a file for each promise.
 * Behind each call all that can be seen is looked at: a call changes only what its promise names,
 * and one that answers an ERROR only what told() tells.
 */
public final class EdgesTest {
    private static final Path FILES = Path.of("src/test/edges");

    /** What a call may change when it answers no ERROR; calls that aren't here change nothing. */
    private static final Map<String, String> CHANGES = Map.ofEntries(
        Map.entry("set", "machine"), Map.entry("cloth", "cloths"), Map.entry("change", "cloths"),
        Map.entry("become", "cloths"), Map.entry("feed", "tape|tape text"), Map.entry("text", "tape|tape text|texts"),
        Map.entry("sew", "machine|cloths|second"), Map.entry("deed", "machine|second"),
        Map.entry("loose", "machine|cloths|second|z"), Map.entry("seed", "z"), Map.entry("voice", "trace"),
        Map.entry("sheet", "sheets"), Map.entry("put", "sheets"), Map.entry("move", "sheets"),
        Map.entry("thicks", "cloths"), Map.entry("image", "images|kept.*"),
        Map.entry("restore", "machine|cloths|second|z|tape|tape text|texts|waiting"),
        Map.entry("tell", "waiting"), Map.entry("check", "waiting"));

    /** The ERRORS that each promise names; each must be answered somewhere in its file. */
    private static final String[] NAMED = {
        "", "set BEYOND", "machine BEYOND", "cloth BEYOND FULL", "ofCloth BEYOND", "change BEYOND", "become BEYOND",
        "as BEYOND KIND", "feed BEYOND FULL", "text BEYOND", "law BEYOND", "sew BEYOND STATE", "deed BEYOND STATE",
        "loose BEYOND STATE", "after BEYOND", "until BEYOND NONE", "cure BEYOND NONE", "alone BEYOND", "canBe BEYOND NONE",
        "tellsMost BEYOND NONE", "knobWas BEYOND", "row BEYOND", "odds BEYOND", "seed", "voice BEYOND", "trace NONE",
        "sheet BEYOND STATE", "put BEYOND NONE", "move BEYOND NONE KIND", "thicks BEYOND NONE", "judge BEYOND NONE",
        "image", "restore NONE", "tell FULL", "check", "count BEYOND", "told BEYOND"
    };

    public static void main(String[] args) throws IOException {
        Map<Integer, Set<String>> seen = new TreeMap<>();
        List<Path> files;
        try (Stream<Path> all = Files.list(FILES)) {
            files = all.filter(p -> p.toString().endsWith(".txt")).sorted().toList();
        }
        for (Path file : files) {
            String name = file.getFileName().toString();
            EdgeScript script = new EdgeScript(name, Files.readAllLines(file));
            Set<String> answers = seen.computeIfAbsent(Integer.parseInt(name.substring(0, 2)), k -> new TreeSet<>());
            for (List<EdgeScript.Step> run : script.runs) {
                play(run, answers);
            }
        }
        for (int promise = 1; promise <= NAMED.length; promise++) {
            allNamed(promise, seen.getOrDefault(promise, Set.of()));
        }
        Due.end();
    }

    private static void allNamed(int promise, Set<String> answers) {
        String[] words = NAMED[promise - 1].split(" ");
        Due.is("edges of promise " + promise, answers.isEmpty() ? 0 : 1, 1);
        for (int i = 1; i < words.length; i++) {
            Due.is("promise " + promise + ": " + words[0] + " answers " + words[i], answers.contains(words[0] + " " + words[i]) ? 1 : 0, 1);
        }
    }

    private static void play(List<EdgeScript.Step> run, Set<String> answers) {
        Player x = new Player();
        List<EdgeScript.Step> past = new ArrayList<>();
        Map<String, List<Integer>> before = Probe.of(past);
        for (int i = 0; i < run.size(); i++) {
            EdgeScript.Step step = run.get(i);
            int answer = x.ask(step.name(), step.arguments());
            if (step.due() != null) {
                Due.is(step.call(), answer, step.due());
            } else {
                Due.is(step.call() + " answered the ERROR " + answer, answer < Due.LOW && !isAnyNumber(step) ? 1 : 0, 0);
            }
            answers.add(step.error() == 0 ? step.name() : step.name() + " " + EdgeScript.ERRORS.get(step.error() - 1));
            past.add(step);
            // Of one call made many times over only the last is looked behind: it is but a way to get somewhere.
            if (step.error() != 0 || i + 1 == run.size() || run.get(i + 1) != step) {
                Map<String, List<Integer>> behind = Probe.of(past);
                compare(step, answer, before, behind);
                before = behind;
            }
        }
    }

    private static boolean isAnyNumber(EdgeScript.Step step) {
        return step.name().equals("seed") || step.name().equals("voice") || step.name().equals("count");
    }

    private static String mayChange(EdgeScript.Step step, int answer) {
        if (step.error() != 0) {
            return "";
        }
        if (step.name().equals("text") && answer < 0) {
            return "tape|tape text";
        }
        return CHANGES.getOrDefault(step.name(), "");
    }

    private static void compare(EdgeScript.Step step, int answer, Map<String, List<Integer>> before,
            Map<String, List<Integer>> behind) {
        String mayChange = mayChange(step, answer) + "|told";
        for (String part : behind.keySet()) {
            if (!part.matches(mayChange) && !behind.get(part).equals(before.get(part))) {
                Due.is(step.call() + " changed " + part + " from " + before.get(part) + " to " + behind.get(part), 1, 0);
            }
        }
        for (int k = 1; k <= 5; k++) {
            int more = behind.get("told").get(k - 1) - before.get("told").get(k - 1);
            Due.is(step.call() + ": told(" + k + ") is more by", more, k == step.error() ? 1 : 0);
        }
    }
}
