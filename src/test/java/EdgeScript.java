import java.util.ArrayList;
import java.util.List;

/** The runs of calls of one file under src/test/edges, read from lines. src/test/edges/README.md tells their form. */
final class EdgeScript {
    /** One call; error is the ERROR that is due (1 to 5) or 0, due null where any answer that is no ERROR will do. */
    record Step(String name, long[] arguments, Integer due, int error, String where) {
        String call() {
            StringBuilder s = new StringBuilder(where).append(' ').append(name).append('(');
            for (int i = 0; i < arguments.length; i++) {
                s.append(i == 0 ? "" : ", ").append(arguments[i]);
            }
            return s.append(')').toString();
        }
    }

    static final List<String> ERRORS = List.of("BEYOND", "NONE", "STATE", "FULL", "KIND");

    final List<List<Step>> runs = new ArrayList<>();
    private final String file;

    EdgeScript(String itsFile, List<String> lines) {
        file = itsFile;
        for (int i = 0; i < lines.size(); i++) {
            readLine(lines.get(i).trim(), i + 1);
        }
    }

    private void readLine(String line, int number) {
        if (line.isEmpty() || line.startsWith("#")) {
            return;
        }
        if (line.equals("new")) {
            runs.add(new ArrayList<>());
            return;
        }
        String where = file + ":" + number;
        if (runs.isEmpty()) {
            throw new IllegalArgumentException(where + ": a run begins with new");
        }
        if (line.startsWith("tape \"")) {
            tape(line.substring(6, line.length() - 1), where);
            return;
        }
        for (String call : line.split(";")) {
            readCall(call.trim(), where);
        }
    }

    private void tape(String text, String where) {
        for (int at = 0; at < text.length(); at += 8) {
            String part = text.substring(at, Math.min(at + 8, text.length()));
            add(new Step("feed", new long[] {word(part), part.length()}, null, 0, where));
        }
    }

    private void readCall(String call, String where) {
        int times = 1;
        if (Character.isDigit(call.charAt(0))) {
            int x = call.indexOf('x');
            times = Integer.parseInt(call.substring(0, x).trim());
            call = call.substring(x + 1).trim();
        }
        int open = call.indexOf('(');
        int close = call.indexOf(')', open);
        if (open < 1 || close < open) {
            throw new IllegalArgumentException(where + ": " + call);
        }
        String rest = call.substring(close + 1).trim();
        if (!rest.isEmpty() && !rest.startsWith("=")) {
            throw new IllegalArgumentException(where + ": " + call);
        }
        String answer = rest.isEmpty() ? "" : rest.substring(1).trim();
        Integer due = answer.isEmpty() ? null : Integer.valueOf((int) number(answer));
        long[] arguments = numbers(call.substring(open + 1, close).trim());
        Step step = new Step(call.substring(0, open).trim(), arguments, due, ERRORS.indexOf(answer) + 1, where);
        for (int i = 0; i < times; i++) {
            add(step);
        }
    }

    private void add(Step step) {
        runs.get(runs.size() - 1).add(step);
    }

    private static long[] numbers(String list) {
        if (list.isEmpty()) {
            return new long[0];
        }
        String[] parts = list.split(",");
        long[] numbers = new long[parts.length];
        for (int i = 0; i < parts.length; i++) {
            numbers[i] = number(parts[i].trim());
        }
        return numbers;
    }

    private static long number(String s) {
        if (ERRORS.contains(s)) {
            return Due.LOW - 1 - ERRORS.indexOf(s);
        }
        switch (s) {
            case "MIN": return Integer.MIN_VALUE;
            case "MAX": return Integer.MAX_VALUE;
            default: return s.startsWith("0x") ? Long.parseUnsignedLong(s.substring(2), 16) : Long.parseLong(s);
        }
    }

    /** Up to eight signs as a word, the first of them lowest. */
    static long word(String text) {
        long word = 0;
        for (int i = 0; i < text.length(); i++) {
            word |= (long) (text.charAt(i) & 255) << 8 * i;
        }
        return word;
    }
}
