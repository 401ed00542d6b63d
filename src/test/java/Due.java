/** What the project's tests share: the ERRORS, and the count of answers that are not as due. */
final class Due {
    static final int LOW = -1000000000;
    static final int BEYOND = LOW - 1;
    static final int NONE = LOW - 2;
    static final int STATE = LOW - 3;
    static final int FULL = LOW - 4;
    static final int KIND = LOW - 5;

    private static int asked = 0;
    private static int wrong = 0;

    private Due() {
    }

    static void is(String what, long got, long want) {
        asked++;
        if (got != want) {
            wrong++;
            System.out.println(what + ": answered " + got + ", due is " + want);
        }
    }

    /** Feeds a text to THE TAPE, eight bytes at a time. */
    static void tape(LoopsBelow x, String text) {
        for (int from = 0; from < text.length(); from += 8) {
            int n = Math.min(8, text.length() - from);
            long word = 0;
            for (int i = 0; i < n; i++) {
                word |= (long) (text.charAt(from + i) & 255) << (8 * i);
            }
            Due.is("feed of " + text, x.feed(word, n), from + n);
        }
    }

    static int text(LoopsBelow x, int use, String text) {
        tape(x, text);
        return x.text(use);
    }

    static void end() {
        System.out.println(asked + " answers, " + wrong + " not as due");
        if (wrong != 0 || asked == 0) {
            System.exit(1);
        }
    }
}
