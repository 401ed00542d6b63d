/** Promises 4 to 8: cloth, ofCloth, change, become, as. */
public final class ClothsTest {
    public static void main(String[] args) {
        making();
        wantsAndBears();
        offAndShows();
        changing();
        becoming();
        kinds();
        Due.end();
    }

    private static void making() {
        LoopsBelow x = new LoopsBelow();
        Due.is("km below", x.cloth(-1, 0), Due.BEYOND);
        Due.is("km above", x.cloth(70, 0), Due.BEYOND);
        Due.is("thick below", x.cloth(0, -1), Due.BEYOND);
        Due.is("thick above", x.cloth(0, 10), Due.BEYOND);
        Due.is("none made", x.count(0), 0);
        for (int i = 0; i < 6; i++) {
            Due.is("its number", x.cloth(69 - i, i), i);
        }
        Due.is("a seventh", x.cloth(0, 0), Due.FULL);
        Due.is("BEYOND ahead of FULL", x.cloth(70, 0), Due.BEYOND);
        Due.is("six", x.count(0), 6);
        for (int i = 0; i < 6; i++) {
            Due.is("kind", x.ofCloth(i, 0), 6);
            Due.is("m", x.ofCloth(i, 1), 9 - i);
            Due.is("thick", x.ofCloth(i, 2), i);
            Due.is("yards", x.ofCloth(i, 3), 0);
            Due.is("spoilt", x.ofCloth(i, 4), 0);
        }
        Due.is("no cloth", x.ofCloth(6, 0), Due.BEYOND);
        Due.is("no cloth below", x.ofCloth(-1, 0), Due.BEYOND);
        Due.is("no what", x.ofCloth(0, 9), Due.BEYOND);
        Due.is("no what below", x.ofCloth(0, -1), Due.BEYOND);
    }

    /** m 7, THICK 5: the TEXT gives 2 + 5 / 2 = 4. */
    private static void wantsAndBears() {
        int[] wants = {4, 2, 6, 5, 3, 5, 5};
        int[] bears = {1, 0, 1, 2, 0, 2, 3};
        for (int kind = 0; kind < 7; kind++) {
            LoopsBelow x = new LoopsBelow();
            x.cloth(10 * kind + 7, 5);
            Due.is("wants of kind " + kind, x.ofCloth(0, 5), wants[kind]);
            Due.is("bears of kind " + kind, x.ofCloth(0, 6), bears[kind]);
        }
        LoopsBelow x = new LoopsBelow();
        x.cloth(68, 0);
        Due.is("scrap by m 8", x.ofCloth(0, 6), 4);
        x.become(0, 63);
        Due.is("scrap by m 3", x.ofCloth(0, 6), 2);
        x.become(0, 56);
        Due.is("curtain by m even", x.ofCloth(0, 5), 2);
        x.become(0, 53);
        Due.is("curtain by m odd", x.ofCloth(0, 5), 1);
        x.become(0, 38);
        Due.is("knit by m 8", x.ofCloth(0, 5), 4);
        x.become(0, 50);
        Due.text(x, 0, "k*3");
        Due.is("k is the cloth's own KIND", x.ofCloth(0, 5), 15);
        x.become(0, 40);
        Due.is("velvet's k", x.ofCloth(0, 5), 11);
    }

    private static void offAndShows() {
        LoopsBelow x = new LoopsBelow();
        x.cloth(0, 4);
        Due.is("wants 4", x.ofCloth(0, 5), 4);
        int[] shown = {1, 1, 1, 0, 0, 0, 2, 2, 2, 2};
        for (int knob = 0; knob < 10; knob++) {
            x.set(1, knob);
            Due.is("off by knob", x.ofCloth(0, 7), knob - 4);
            Due.is("shows by knob", x.ofCloth(0, 8), shown[knob]);
        }
        x.set(2, 9);
        Due.is("off by screw", x.ofCloth(0, 7), -4);
        x.set(4, 19);
        Due.is("lint below 20", x.ofCloth(0, 7), -4);
        x.set(4, 20);
        Due.is("lint of 20", x.ofCloth(0, 7), -5);
        x.set(4, 99);
        Due.is("lint of 99", x.ofCloth(0, 7), -8);
        needleAndThreading();
    }

    private static void needleAndThreading() {
        LoopsBelow x = new LoopsBelow();
        x.cloth(0, 4);
        x.set(3, 1);
        x.set(5, 4);
        Due.is("bent, as fast as the limit", x.ofCloth(0, 8), 0);
        x.set(5, 5);
        Due.is("bent, faster", x.ofCloth(0, 8), 3);
        x.set(3, 2);
        x.set(5, 0);
        Due.is("turned, slow", x.ofCloth(0, 8), 3);
        x.set(0, 1);
        Due.is("nested ahead of skipped", x.ofCloth(0, 8), 4);
        x.set(0, 0);
        x.set(3, 1);
        x.set(5, 3);
        Due.text(x, 1, "(t=4)+(m=0)+(l>50)");
        Due.is("limit 2", x.ofCloth(0, 8), 3);
        x.set(5, 2);
        Due.is("limit 2, at it", x.ofCloth(0, 8), 0);
        x.set(4, 51);
        x.set(1, 6);
        x.set(5, 3);
        Due.is("limit 3 by lint", x.ofCloth(0, 8), 0);
    }

    private static void changing() {
        LoopsBelow x = new LoopsBelow();
        x.cloth(0, 3);
        int[] most = {9, 9999, 9999};
        int[] was = {3, 0, 0};
        for (int what = 0; what < 3; what++) {
            Due.is("to the most", x.change(0, what, most[what]), was[what]);
            Due.is("above", x.change(0, what, most[what] + 1), Due.BEYOND);
            Due.is("below", x.change(0, what, -1), Due.BEYOND);
            Due.is("stays", x.ofCloth(0, 2 + what), most[what]);
            Due.is("to 1", x.change(0, what, 1), most[what]);
            Due.is("to 0", x.change(0, what, 0), 1);
        }
        Due.is("no what", x.change(0, 3, 0), Due.BEYOND);
        Due.is("no what below", x.change(0, -1, 0), Due.BEYOND);
        Due.is("no cloth", x.change(1, 0, 0), Due.BEYOND);
        Due.is("no cloth below", x.change(-1, 0, 0), Due.BEYOND);
    }

    private static void becoming() {
        LoopsBelow x = new LoopsBelow();
        x.cloth(25, 7);
        x.sew(0, 3);
        Due.is("was denim", x.become(0, 48), 2);
        Due.is("kind", x.ofCloth(0, 0), 4);
        Due.is("m", x.ofCloth(0, 1), 8);
        Due.is("thick stays", x.ofCloth(0, 2), 7);
        Due.is("yards stay", x.ofCloth(0, 3), 3);
        Due.is("km above", x.become(0, 70), Due.BEYOND);
        Due.is("km below", x.become(0, -1), Due.BEYOND);
        Due.is("no cloth", x.become(1, 0), Due.BEYOND);
        Due.is("was velvet", x.become(0, 0), 4);
    }

    private static void kinds() {
        int[] above = {-1, 0, 0, 0, 1, 2, 3};
        LoopsBelow x = new LoopsBelow();
        x.cloth(0, 0);
        for (int kind = 0; kind < 7; kind++) {
            x.become(0, 10 * kind + 6);
            for (int as = 0; as < 7; as++) {
                boolean is = as == 0 || as == kind || as == above[kind];
                Due.is("kind " + kind + " as " + as, x.as(0, as), is ? 6 : Due.KIND);
            }
        }
        Due.is("no kind", x.as(0, 7), Due.BEYOND);
        Due.is("no kind below", x.as(0, -1), Due.BEYOND);
        Due.is("no cloth", x.as(1, 0), Due.BEYOND);
        Due.is("counted as KIND", x.told(5), 49 - 7 - 6 - 3);
    }
}
