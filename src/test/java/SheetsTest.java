/** Promises 27 to 31: sheet, put, move, thicks, judge. */
public final class SheetsTest {
    public static void main(String[] args) {
        laying();
        putting();
        moving();
        movingWrongly();
        thicks();
        judging();
        Due.end();
    }

    private static void laying() {
        LoopsBelow x = new LoopsBelow();
        for (int bits : new int[] {8, 16, 32}) {
            Due.is("40 numbers", x.sheet(0, bits, 40), 1);
            Due.is("the last", x.put(0, 39, 1), 1);
            Due.is("no more", x.put(0, 40, 1), Due.BEYOND);
            Due.is("41", x.sheet(0, bits, 41), Due.BEYOND);
            Due.is("below 0", x.sheet(0, bits, -1), Due.STATE);
            Due.is("far below", x.sheet(0, bits, Integer.MIN_VALUE), Due.STATE);
            Due.is("still there", x.put(0, 39, 1), 1);
            Due.is("none", x.sheet(0, bits, 0), 1);
            Due.is("not missing", x.put(0, 0, 1), Due.BEYOND);
        }
        for (int bits : new int[] {-8, 1, 7, 24, 64, Integer.MIN_VALUE}) {
            Due.is("no bits", x.sheet(0, bits, 1), Due.BEYOND);
            Due.is("no bits, ahead of STATE", x.sheet(0, bits, -1), Due.BEYOND);
        }
        Due.is("no sheet", x.sheet(4, 8, 1), Due.BEYOND);
        Due.is("no sheet, ahead of STATE", x.sheet(-1, 8, -1), Due.BEYOND);
        Due.is("missing", x.sheet(0, 0, -77), 1);
        Due.is("missing now", x.put(0, 0, 1), Due.NONE);
        Due.is("no sheet can't be missing", x.sheet(4, 0, 0), Due.BEYOND);
        x.sheet(1, 8, 2);
        x.put(1, 0, 9);
        x.sheet(1, 8, 2);
        x.cloth(0, 5);
        Due.is("all 0 again", x.thicks(1), 1);
        Due.is("0", x.ofCloth(0, 2), 0);
    }

    /** What number 0 of a SHEET is, from what a judge() of THICK can't tell: 0 to 9 by thicks(). */
    private static int thick(LoopsBelow x, int sheet) {
        return x.thicks(sheet) == 0 ? -1 : x.ofCloth(0, 2);
    }

    private static void putting() {
        LoopsBelow x = new LoopsBelow();
        x.cloth(0, 0);
        x.sheet(0, 8, 1);
        x.sheet(1, 16, 1);
        x.sheet(2, 32, 1);
        x.put(0, 0, 0x7fffff05);
        Due.is("lowest 8", thick(x, 0), 5);
        x.put(1, 0, 0x7fff0006);
        Due.is("lowest 16", thick(x, 1), 6);
        x.put(1, 0, 0x106);
        Due.is("16 are more than 8", thick(x, 1), -1);
        x.put(2, 0, 0x10006);
        Due.is("all 32", thick(x, 2), -1);
        x.put(0, 0, 255);
        Due.is("below 0 by 8", x.canBe(0, 0), 600);
        x.put(1, 0, 255);
        Due.is("not by 16", x.canBe(1, 0), 0);
        x.put(1, 0, 65535);
        Due.is("below 0 by 16", x.canBe(1, 0), 600);
        x.put(2, 0, 65535);
        Due.is("not by 32", x.canBe(2, 0), 0);
        x.put(2, 0, Integer.MIN_VALUE);
        Due.is("below 0 by 32", x.canBe(2, 0), 600);
        Due.is("no number", x.put(0, 1, 0), Due.BEYOND);
        Due.is("no number below", x.put(0, -1, 0), Due.BEYOND);
        Due.is("missing, ahead of the number", x.put(3, -1, 0), Due.NONE);
        Due.is("no sheet", x.put(4, 0, 0), Due.BEYOND);
        Due.is("no sheet below", x.put(-1, 0, 0), Due.BEYOND);
    }

    private static LoopsBelow sheets() {
        LoopsBelow x = new LoopsBelow();
        for (int i = 0; i < 6; i++) {
            x.cloth(0, 9);
        }
        x.sheet(0, 8, 6);
        x.sheet(1, 8, 3);
        x.sheet(2, 16, 6);
        for (int i = 0; i < 6; i++) {
            x.put(0, i, i + 1);
        }
        return x;
    }

    private static void holds(LoopsBelow x, int sheet, int... numbers) {
        Due.is("numbers", x.thicks(sheet), numbers.length);
        for (int i = 0; i < numbers.length; i++) {
            Due.is("number " + i, x.ofCloth(i, 2), numbers[i]);
        }
    }

    private static void moving() {
        LoopsBelow x = sheets();
        Due.is("upward in the same", x.move(0, 0, 0, 2, 4), 4);
        holds(x, 0, 1, 2, 1, 2, 3, 4);
        Due.is("downward in the same", x.move(0, 2, 0, 1, 4), 4);
        holds(x, 0, 1, 1, 2, 3, 4, 4);
        Due.is("to another", x.move(0, 3, 1, 0, 3), 3);
        holds(x, 1, 3, 4, 4);
        Due.is("none", x.move(0, 6, 1, 3, 0), 0);
        Due.is("all on themselves", x.move(0, 0, 0, 0, 6), 6);
        holds(x, 0, 1, 1, 2, 3, 4, 4);
    }

    private static void movingWrongly() {
        LoopsBelow x = sheets();
        Due.is("no sheet", x.move(4, 0, 3, 0, 1), Due.BEYOND);
        Due.is("no other", x.move(3, 0, -1, 0, 1), Due.BEYOND);
        Due.is("missing", x.move(3, 0, 0, 0, -1), Due.NONE);
        Due.is("other missing", x.move(0, 0, 3, 0, -1), Due.NONE);
        Due.is("unlike", x.move(0, -1, 2, 0, 1), Due.KIND);
        Due.is("n below", x.move(0, 0, 1, 0, -1), Due.BEYOND);
        Due.is("i below", x.move(0, -1, 1, 0, 1), Due.BEYOND);
        Due.is("j below", x.move(0, 0, 1, -1, 1), Due.BEYOND);
        Due.is("i too far", x.move(0, 5, 1, 0, 2), Due.BEYOND);
        Due.is("j too far", x.move(0, 0, 1, 2, 2), Due.BEYOND);
        Due.is("n too many", x.move(0, 0, 1, 0, 4), Due.BEYOND);
        Due.is("i + n goes round", x.move(0, Integer.MAX_VALUE, 1, 0, 1), Due.BEYOND);
        Due.is("j + n goes round", x.move(0, 0, 1, Integer.MAX_VALUE, 1), Due.BEYOND);
        Due.is("n far too many", x.move(0, 1, 1, 1, Integer.MAX_VALUE), Due.BEYOND);
        holds(x, 0, 1, 2, 3, 4, 5, 6);
        holds(x, 1, 0, 0, 0);
    }

    private static void thicks() {
        LoopsBelow x = new LoopsBelow();
        x.sheet(0, 32, 3);
        Due.is("no cloths", x.thicks(0), 0);
        x.cloth(0, 7);
        x.cloth(0, 7);
        x.put(0, 0, 9);
        x.put(0, 1, 10);
        Due.is("10 is too thick", x.thicks(0), 1);
        Due.is("the first", x.ofCloth(0, 2), 9);
        Due.is("the second stays", x.ofCloth(1, 2), 7);
        x.put(0, 1, -1);
        Due.is("-1 is too thin", x.thicks(0), 1);
        x.put(0, 1, 0);
        Due.is("no third cloth", x.thicks(0), 2);
        x.sheet(0, 32, 1);
        Due.is("fewer numbers than cloths", x.thicks(0), 1);
        Due.is("missing", x.thicks(1), Due.NONE);
        Due.is("no sheet", x.thicks(4), Due.BEYOND);
        Due.is("no sheet below", x.thicks(-1), Due.BEYOND);
    }

    private static void judging() {
        LoopsBelow x = new LoopsBelow();
        x.sheet(0, 8, 0);
        Due.is("nothing of nothing", x.judge(0), -1);
        x.cloth(0, 4);
        Due.is("one lacks", x.judge(0), 0);
        x.cloth(10, 4);
        x.sheet(0, 8, 2);
        Due.is("silk is puckered", x.judge(0), 1);
        x.put(0, 1, 2);
        Due.is("all are", x.judge(0), -1);
        x.put(0, 1, -1);
        Due.is("below 0 is wrong here", x.judge(0), 1);
        x.sheet(1, 16, 3);
        x.put(1, 1, 2);
        Due.is("too many", x.judge(1), 2);
        x.cloth(0, 4);
        x.cloth(0, 4);
        Due.is("too few", x.judge(1), 3);
        x.put(1, 0, 4);
        Due.is("the first", x.judge(1), 0);
        x.set(0, 1);
        Due.is("nested now", x.judge(1), 1);
        Due.is("missing", x.judge(2), Due.NONE);
        Due.is("no sheet", x.judge(4), Due.BEYOND);
        Due.is("no sheet below", x.judge(-1), Due.BEYOND);
    }
}
