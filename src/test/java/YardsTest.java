/** Promises 12 to 14: sew, deed, loose. */
public final class YardsTest {
    public static void main(String[] args) {
        sewing();
        lint();
        heldYards();
        deeds();
        lastSeconds();
        evenings();
        Due.end();
    }

    /** CLOTH of THICK 4 wants 4 and bears 1: LINT 40 makes it OFF by -2. */
    private static void sewing() {
        LoopsBelow x = new LoopsBelow();
        x.cloth(0, 4);
        Due.is("even while LINT is below 40", x.sew(0, 40), 0);
        Due.is("a yard takes 10 less SPEED", x.count(1), 280);
        Due.is("looped from then on", x.sew(0, 5), 5);
        Due.is("yards", x.ofCloth(0, 3), 45);
        Due.is("spoilt", x.ofCloth(0, 4), 5);
        x.set(4, 35);
        Due.is("some of them", x.sew(0, 10), 5);
        Due.is("no yards", x.sew(0, 0), Due.BEYOND);
        Due.is("too many", x.sew(0, 201), Due.BEYOND);
        Due.is("no cloth", x.sew(1, 1), Due.BEYOND);
        Due.is("no cloth below", x.sew(-1, 1), Due.BEYOND);
        Due.is("nothing changed", x.count(2), 55);
        Due.is("200", x.sew(0, 200), 200);
        x.set(5, 9);
        int before = x.count(1);
        x.sew(0, 7);
        Due.is("fastest", x.count(1), before + 7);
    }

    private static void lint() {
        int[] lint = {1, 1, 2, 1, 1, 2, 0};
        for (int kind = 0; kind < 7; kind++) {
            LoopsBelow x = new LoopsBelow();
            x.cloth(10 * kind, 0);
            x.sew(0, 3);
            Due.is("lint of kind " + kind, x.machine(4), 3 * lint[kind]);
            x.set(4, 98);
            x.sew(0, 1);
            Due.is("held, kind " + kind, x.machine(4), Math.min(99, 98 + lint[kind]));
        }
    }

    private static void heldYards() {
        LoopsBelow x = new LoopsBelow();
        x.cloth(0, 4);
        x.set(0, 1);
        x.change(0, 1, 9998);
        x.change(0, 2, 9999);
        Due.is("spoilt, though held", x.sew(0, 3), 3);
        Due.is("yards held", x.ofCloth(0, 3), 9999);
        Due.is("spoilt held", x.ofCloth(0, 4), 9999);
    }

    private static void deeds() {
        LoopsBelow x = new LoopsBelow();
        x.set(0, 1);
        x.set(3, 2);
        x.set(4, 70);
        Due.is("thread anew", x.deed(0), 11);
        Due.is("threading", x.machine(0), 0);
        Due.is("needle", x.deed(1), 31);
        Due.is("good", x.machine(3), 0);
        Due.is("clean", x.deed(2), 40);
        Due.is("lint", x.machine(4), 0);
        Due.is("knob up", x.deed(3), 42);
        Due.is("knob", x.machine(1), 5);
        Due.is("knob down", x.deed(4), 44);
        Due.is("knob again", x.machine(1), 4);
        Due.is("screw down from 0", x.deed(6), Due.STATE);
        Due.is("screw up", x.deed(5), 49);
        Due.is("screw", x.machine(2), 1);
        Due.is("screw down", x.deed(6), 54);
        Due.is("screw again", x.machine(2), 0);
        x.set(2, 9);
        Due.is("screw up from 9", x.deed(5), Due.STATE);
        x.set(1, 9);
        Due.is("knob up from 9", x.deed(3), Due.STATE);
        x.set(1, 0);
        Due.is("knob down from 0", x.deed(4), Due.STATE);
        x.set(1, 1);
        Due.is("knob down from 1", x.deed(4), 56);
        x.set(1, 8);
        Due.is("knob up from 8", x.deed(3), 58);
        x.set(2, 8);
        Due.is("screw up from 8", x.deed(5), 63);
        x.set(2, 1);
        Due.is("screw down from 1", x.deed(6), 68);
        Due.is("no deed", x.deed(7), Due.BEYOND);
        Due.is("no deed below", x.deed(-1), Due.BEYOND);
        Due.is("no time for these", x.count(1), 68);
        Due.is("counted", x.told(3), 4);
    }

    /** 49 times 200 YARDS of 10 SECONDS, then 1 SECOND each. */
    private static LoopsBelow at(int second) {
        LoopsBelow x = new LoopsBelow();
        x.cloth(0, 4);
        x.set(5, 0);
        for (int i = 0; i < 49; i++) {
            x.sew(0, 200);
        }
        x.set(5, 9);
        for (int left = second - 98000; left > 0; left -= 200) {
            x.sew(0, Math.min(200, left));
        }
        Due.is("SECOND", x.count(1), second);
        return x;
    }

    private static void lastSeconds() {
        LoopsBelow x = at(99989);
        Due.is("eleven yards", x.sew(0, 11), Due.STATE);
        Due.is("deed of 11", x.deed(0), Due.STATE);
        Due.is("deed of 20", x.deed(1), Due.STATE);
        Due.is("one evening", x.loose(1), Due.STATE);
        Due.is("BEYOND ahead", x.loose(41), Due.BEYOND);
        Due.is("as it was", x.count(1), 99989);
        Due.is("z as it was", x.count(7), 1);
        Due.is("deed of 9", x.deed(2), 99998);
        Due.is("deed of 2", x.deed(3), Due.STATE);
        x.sew(0, 1);
        Due.is("the last", x.count(1), 99999);
        Due.is("one more", x.sew(0, 1), Due.STATE);
        Due.is("after is only thought", x.after(0, 200) >= 0 ? 1 : 0, 1);
        LoopsBelow y = at(99959);
        Due.is("two evenings", y.loose(2), Due.STATE);
        Due.is("one evening", y.loose(1) < 0 ? 1 : 0, 0);
        LoopsBelow w = at(99988);
        Due.is("eleven more, just", w.deed(0), 99999);
        LoopsBelow v = at(99969);
        Due.is("30 just fit", v.loose(1) < 0 ? 1 : 0, 0);
        LoopsBelow u = at(99970);
        Due.is("30 don't", u.loose(1), Due.STATE);
    }

    private static int drawn(int z) {
        return z * 1103515245 + 12345;
    }

    private static void evenings() {
        LoopsBelow x = new LoopsBelow();
        Due.is("none", x.loose(0), Due.BEYOND);
        Due.is("41", x.loose(41), Due.BEYOND);
        Due.is("without cloths", x.loose(40), 0);
        int z = 1;
        for (int i = 0; i < 80; i++) {
            z = drawn(z);
        }
        Due.is("two draws each", x.count(7), z);
        deedsOfSeeds();
        eveningsWithoutCloths();
    }

    /** Without CLOTHS DEEDS alone take time, but each EVENING is asked for with its 30 SECONDS. */
    private static void eveningsWithoutCloths() {
        int[] seconds = {11, 20, 9, 2, 2, 5, 5};
        LoopsBelow x = new LoopsBelow();
        int z = 1;
        int knob = 4;
        int screw = 0;
        int second = 0;
        while (second + 1200 <= 99999) {
            Due.is("40 evenings at " + second, x.loose(40), 0);
            for (int i = 0; i < 40; i++) {
                z = drawn(z);
                int deed = (z >>> 8) % 7;
                z = drawn(z);
                boolean can = deed == 3 ? knob < 9 : deed == 4 ? knob > 0 : deed == 5 ? screw < 9 : deed != 6 || screw > 0;
                knob += !can ? 0 : deed == 3 ? 1 : deed == 4 ? -1 : 0;
                screw += !can ? 0 : deed == 5 ? 1 : deed == 6 ? -1 : 0;
                second += can ? seconds[deed] : 0;
            }
        }
        Due.is("40 are too many", x.loose(40), Due.STATE);
        Due.is("SECOND", x.count(1), second);
        int fit = (99999 - second) / 30;
        Due.is("one more than fit", x.loose(fit + 1), Due.STATE);
        Due.is("as many as fit", x.loose(fit), 0);
    }

    /** One EVENING by each of some seeds: the DEED by 7, the cloth by how many there are. */
    private static void deedsOfSeeds() {
        int[] seconds = {11, 20, 9, 2, 2, 5, 5};
        for (int seed = -30; seed < 30; seed++) {
            LoopsBelow x = new LoopsBelow();
            x.cloth(0, 4);
            x.cloth(60, 4);
            x.cloth(20, 4);
            x.set(0, 1);
            x.set(2, 9);
            x.seed(seed);
            int first = drawn(seed);
            int second = drawn(first);
            int deed = (first >>> 8) % 7;
            int cloth = (second >>> 8) % 3;
            Due.is("looped by the screw, if not nested", x.loose(1), 1);
            Due.is("z", x.count(7), second);
            Due.is("threading", x.machine(0), deed == 0 ? 0 : 1);
            Due.is("knob", x.machine(1), deed == 3 ? 5 : deed == 4 ? 3 : 4);
            Due.is("screw up can't be done", x.machine(2), deed == 6 ? 8 : 9);
            Due.is("seconds", x.count(1), 7 + (deed == 5 ? 0 : seconds[deed]));
            Due.is("lint", x.machine(4), new int[] {1, 0, 2}[cloth]);
            for (int i = 0; i < 3; i++) {
                Due.is("yards", x.ofCloth(i, 3), i == cloth ? 1 : 0);
            }
        }
    }
}
