/** Promises 9 to 11: feed, text, law. */
public final class TextsTest {
    public static void main(String[] args) {
        feeding();
        taking();
        values();
        faults();
        holding();
        Due.end();
    }

    private static void feeding() {
        LoopsBelow x = new LoopsBelow();
        Due.is("n 0", x.feed(0, 0), Due.BEYOND);
        Due.is("n 9", x.feed(0, 9), Due.BEYOND);
        Due.is("n below", x.feed(0, -1), Due.BEYOND);
        // '1' '+' '2', and a byte that n leaves out.
        Due.is("three bytes", x.feed(0x78322b31L, 3), 3);
        Due.is("a text", x.text(0), 1);
        Due.is("the lowest first", x.law(0, 0, 0, 0), 3);
        for (int i = 1; i <= 6; i++) {
            Due.is("eight bytes", x.feed(-1L, 8), 8 * i);
        }
        Due.is("51 bytes", x.feed(0, 3), Due.FULL);
        Due.is("BEYOND ahead of FULL", x.feed(0, 9), Due.BEYOND);
        Due.is("50 bytes", x.feed(0, 2), 50);
        Due.is("full", x.feed(0, 1), Due.FULL);
        Due.is("count of bytes", x.count(4), 50);
        Due.is("bytes of 255 are no text", x.text(0), -10);
        Due.is("empty then", x.count(4), 0);
    }

    private static void taking() {
        LoopsBelow x = new LoopsBelow();
        Due.tape(x, "5");
        Due.is("no use", x.text(2), Due.BEYOND);
        Due.is("no use below", x.text(-1), Due.BEYOND);
        Due.is("the tape stays", x.count(4), 1);
        Due.is("taken", x.text(1), 1);
        Due.is("only that use", x.law(0, 0, 0, 0), 2);
        Due.is("its use", x.law(1, 0, 0, 0), 5);
        Due.is("nothing on the tape", x.text(1), -10);
        Due.is("a fault is no ERROR", x.told(1), 2);
        Due.is("the one ahead stays", x.law(1, 0, 0, 0), 5);
        Due.is("in place of it", Due.text(x, 1, "7"), 1);
        Due.is("the new one", x.law(1, 0, 0, 0), 7);
        Due.is("law of no use", x.law(2, 0, 0, 0), Due.BEYOND);
        Due.is("law of no use below", x.law(-1, 0, 0, 0), Due.BEYOND);
    }

    private static void value(String text, int want) {
        LoopsBelow x = new LoopsBelow();
        Due.is("text " + text, Due.text(x, 0, text), 1);
        Due.is("value of " + text, x.law(0, 3, 5, 2), want);
    }

    private static void values() {
        value("t", 3);
        value("m", 5);
        value("k", 2);
        value("0012", 12);
        value("2+3*4", 14);
        value("(2+1)*4", 12);
        value("9-3-2", 4);
        value("18/2/3", 3);
        value("17%7%2", 1);
        value("7/2*2", 6);
        value("0-7/2", -3);
        value("(0-7)/2", -3);
        value("(0-7)%4", -3);
        value("7/0", 0);
        value("7%0", 0);
        value("t-m/(k-2)", 3);
        value("1<2", 1);
        value("2<2", 0);
        value("2=2", 1);
        value("3>2", 1);
        value("2>3", 0);
        value("2=3", 0);
        value("2>2", 0);
        value("1&1", 1);
        value("7%4*2", 6);
        value("2*7%4", 2);
        value("9%5+9%4", 5);
        value("1+1=2", 1);
        value("5&3", 1);
        value("5&0", 0);
        value("0|7", 1);
        value("0|0", 0);
        value("1|0&0", 1);
        value("(1|0)&0", 0);
        value("1<2&2<1|1", 1);
        value("!5", 0);
        value("!0", 1);
        value("!!7", 1);
        value("!0*4", 4);
        value("!(0*4)", 1);
        value("0-!0", -1);
        value("!t+5", 5);
        // 9999 to the fourth wraps; a plain sum of it would be held at 19.
        value("9999*9999*9999*9999", 9999 * 9999 * 9999 * 9999 > 19 ? 19 : -9);
        value("9999*9999*22%10", 9999 * 9999 * 22 % 10);
        value("(((((t)))))", 3);
        value("!!!!!t", 0);
        value("(((!t+!m)))+!(!t)", 1);
        value("1+1+1+1+1+1+1+1+1+1+1+1+1+1+1+1+1+1+1+1+1+1+1+1+1", 19);
        value("(1+1+1+1+1+1+1+1+1+1+1+1+1+1+1+1+1+1+1+1+1+1+1)-9", 14);
        LoopsBelow x = new LoopsBelow();
        Due.text(x, 0, "(0-t-1)/(0-1)");
        Due.is("the least int by -1 goes round", x.law(0, Integer.MAX_VALUE, 0, 0), -9);
    }

    private static void fault(String text, int place) {
        for (int use = 0; use < 2; use++) {
            LoopsBelow x = new LoopsBelow();
            Due.is("fault of " + text, Due.text(x, use, text), -10 - place);
            Due.is("none taken", x.law(use, 0, 0, 0), use == 0 ? 2 : 4);
        }
    }

    private static void faults() {
        fault("x", 0);
        fault("t t", 1);
        fault(" t", 0);
        fault("t+", 2);
        fault("t+*", 2);
        fault("+t", 0);
        fault("-1", 0);
        fault("12345", 4);
        fault("t1", 1);
        fault("1t", 1);
        fault("tm", 1);
        fault("1<2<3", 3);
        fault("1<2=3", 3);
        fault("(1<2)<(2<3)>1", 11);
        fault("(", 1);
        fault("()", 1);
        fault("(t", 2);
        fault("(t))", 3);
        fault(")", 0);
        fault("t!", 1);
        fault("!", 1);
        fault("t(", 1);
        fault("((((((", 5);
        fault("!!!!!!t", 5);
        fault("(((((!t)))))", 5);
        fault("!!!((t+!t))", 7);
        fault("(((((t", 6);
        fault("t||t", 2);
        fault("t&&t", 2);
        fault("t==t", 2);
        fault("t<=t", 2);
        fault("T", 0);
        LoopsBelow x = new LoopsBelow();
        Due.is("l is none of WANTED's", Due.text(x, 0, "t+l"), -12);
        Due.is("k is none of LIMIT's", Due.text(x, 1, "t+k"), -12);
        Due.is("l is LIMIT's", Due.text(x, 1, "t+l"), 1);
        Due.is("k is WANTED's", Due.text(x, 0, "t+k"), 1);
        Due.is("fifty bytes that end too early", Due.text(x, 0, "1+1+1+1+1+1+1+1+1+1+1+1+1+1+1+1+1+1+1+1+1+1+1+1+1+"), -60);
    }

    private static void holding() {
        LoopsBelow x = new LoopsBelow();
        Due.is("2+t/2", x.law(0, 7, 99, 99), 5);
        Due.is("cut", x.law(0, -3, 0, 0), 1);
        Due.is("held above", x.law(0, Integer.MAX_VALUE, 0, 0), 19);
        Due.is("held below", x.law(0, Integer.MIN_VALUE, 0, 0), -9);
        Due.is("4", x.law(1, 9, 9, 9), 4);
        Due.text(x, 0, "t");
        Due.text(x, 1, "l");
        Due.is("19", x.law(0, 19, 0, 0), 19);
        Due.is("20", x.law(0, 20, 0, 0), 19);
        Due.is("-9", x.law(0, -9, 0, 0), -9);
        Due.is("-10", x.law(0, -10, 0, 0), -9);
        Due.is("l 9", x.law(1, 0, 0, 9), 9);
        Due.is("l 10", x.law(1, 0, 0, 10), 9);
        Due.is("l 0", x.law(1, 0, 0, 0), 0);
        Due.is("l -1", x.law(1, 0, 0, -1), 0);
    }
}
