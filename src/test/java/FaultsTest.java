/**
 * Promise 10: the FAULT of every short text of some signs, and of every byte behind some beginnings.
 * The grammar is read here as a row of what stands open, sign by sign, and not by its levels: so what
 * a sign may be is known from those ahead of it alone.
 */
public final class FaultsTest {
    private static final String SIGNS = "t1!(<+)&l";
    private static final int LONGEST = 5;
    private static final String[] BEGINNINGS = {
        "", "t", "1", "123", "1234", "!", "(", "(t", "(t)", "t+", "t<", "t<m", "t<m+1", "t<m&t", "(t<m", "(t<m)", "!!!!!", "!(!(!",
        "!(!(!t", "((((t)", "(((((1", "!!!!!1"
    };

    private static LoopsBelow x = new LoopsBelow();
    private static int calls = 0;

    public static void main(String[] args) {
        everyShortText("");
        for (String beginning : BEGINNINGS) {
            for (int b = 0; b < 256; b++) {
                both(beginning + (char) b);
            }
        }
        Due.end();
    }

    private static void everyShortText(String beginning) {
        both(beginning);
        for (int i = 0; i < SIGNS.length() && beginning.length() < LONGEST; i++) {
            everyShortText(beginning + SIGNS.charAt(i));
        }
    }

    private static void both(String text) {
        answer(text, 0, "tmk");
        answer(text, 1, "tml");
    }

    private static void answer(String text, int use, String names) {
        if (calls > 500) {
            x = new LoopsBelow();
            calls = 0;
        }
        for (int at = 0; at < text.length(); at += 8) {
            String part = text.substring(at, Math.min(at + 8, text.length()));
            x.feed(EdgeScript.word(part), part.length());
            calls++;
        }
        int fault = fault(text, names);
        Due.is("text " + text + " of USE " + use, x.text(use), fault < 0 ? 1 : -10 - fault);
        calls++;
    }

    /** Those of ! and ( that are open, each ( followed by < once a comparison stands in its B. */
    private static int fault(String text, String names) {
        String open = "";
        boolean wantsQ = true;
        int digits = 0;
        for (int i = 0; i < text.length(); i++) {
            char c = text.charAt(i);
            boolean digit = c >= '0' && c <= '9';
            if (wantsQ && (c == '!' || c == '(')) {
                open += c;
                if (open.replace("<", "").length() > 5) {
                    return i;
                }
            } else if (wantsQ) {
                if (!digit && names.indexOf(c) < 0) {
                    return i;
                }
                wantsQ = false;
                digits = digit ? 1 : 4;
                open = open.replaceAll("!+$", "");
            } else if (digit) {
                digits++;
                if (digits > 4) {
                    return i;
                }
            } else if (c == ')') {
                open = open.replaceAll("<$", "");
                if (!open.endsWith("(")) {
                    return i;
                }
                open = open.substring(0, open.length() - 1).replaceAll("!+$", "");
                digits = 4;
            } else {
                if ("|&<=>+-*/%".indexOf(c) < 0 || "<=>".indexOf(c) >= 0 && open.endsWith("<")) {
                    return i;
                }
                open = "|&".indexOf(c) >= 0 ? open.replaceAll("<$", "") : "<=>".indexOf(c) >= 0 ? open + "<" : open;
                wantsQ = true;
            }
        }
        return wantsQ || open.contains("(") ? text.length() : -1;
    }
}
