import java.util.ArrayList;
import java.util.List;

/** TEXTS by splitting: whether one is right, what it gives, and the FAULT by trying completions. */
final class Grammar {
    private static final String[] OPERATORS = {"|", "&", "<=>", "+-", "*/%"};

    private Grammar() {
    }

    /** The pieces between operators that stand outside brackets, each operator ahead of its piece; null if brackets don't match. */
    private static List<String> split(String s, String operators) {
        List<String> all = new ArrayList<>();
        int depth = 0;
        StringBuilder piece = new StringBuilder(" ");
        for (char c : s.toCharArray()) {
            depth += c == '(' ? 1 : c == ')' ? -1 : 0;
            if (depth < 0) {
                return null;
            }
            if (depth == 0 && operators.indexOf(c) >= 0) {
                all.add(piece.toString());
                piece = new StringBuilder();
            }
            piece.append(c);
        }
        all.add(piece.toString());
        return depth == 0 ? all : null;
    }

    private static boolean right(String s, int level, int open, String names) {
        if (level < 5) {
            List<String> all = split(s, OPERATORS[level]);
            if (all == null || level == 2 && all.size() > 2) {
                return false;
            }
            for (String piece : all) {
                if (!right(piece.substring(1), level + 1, open, names)) {
                    return false;
                }
            }
            return true;
        }
        if (s.matches("[0-9]{1,4}") || s.length() == 1 && names.contains(s)) {
            return true;
        }
        if (open == 5 || s.isEmpty()) {
            return false;
        }
        return s.charAt(0) == '!' && right(s.substring(1), 5, open + 1, names)
            || s.startsWith("(") && s.endsWith(")") && right(s.substring(1, s.length() - 1), 0, open + 1, names);
    }

    static boolean right(String s, String names) {
        return right(s, 0, 0, names);
    }

    /** Whether some TEXT begins so: an operand and brackets complete every beginning of one. */
    private static boolean begins(String s, String names) {
        for (String closing = ""; closing.length() <= 5; closing += ")") {
            if (right(s + closing, names) || right(s + "t" + closing, names)) {
                return true;
            }
        }
        return false;
    }

    /** -1 if it is a TEXT. */
    static int fault(String s, String names) {
        for (int i = 0; i < s.length(); i++) {
            if (!begins(s.substring(0, i + 1), names)) {
                return i;
            }
        }
        return right(s, names) ? -1 : s.length();
    }

    static int value(String s, String names, int[] v) {
        return value(s, 0, names, v);
    }

    private static int value(String s, int level, String names, int[] v) {
        if (level == 5) {
            if (Character.isDigit(s.charAt(0))) {
                return Integer.parseInt(s);
            }
            if (s.charAt(0) == '!') {
                return value(s.substring(1), 5, names, v) == 0 ? 1 : 0;
            }
            if (s.charAt(0) == '(') {
                return value(s.substring(1, s.length() - 1), 0, names, v);
            }
            return v[names.indexOf(s)];
        }
        List<String> all = split(s, OPERATORS[level]);
        int left = value(all.get(0).substring(1), level + 1, names, v);
        for (String piece : all.subList(1, all.size())) {
            int right = value(piece.substring(1), level + 1, names, v);
            switch (piece.charAt(0)) {
                case '|': left = left != 0 | right != 0 ? 1 : 0; break;
                case '&': left = left != 0 & right != 0 ? 1 : 0; break;
                case '<': left = left < right ? 1 : 0; break;
                case '=': left = left == right ? 1 : 0; break;
                case '>': left = left > right ? 1 : 0; break;
                case '+': left += right; break;
                case '-': left -= right; break;
                case '*': left *= right; break;
                case '/': left = right == 0 ? 0 : left / right; break;
                default: left = right == 0 ? 0 : left % right;
            }
        }
        return left;
    }
}
