/** Promises 15 to 23: after, until, cure, alone, canBe, tellsMost, knobWas, row, odds. */
public final class ThoughtTest {
    public static void main(String[] args) {
        afterAndUntil();
        untilByLimit();
        cures();
        cureTies();
        aloneDeeds();
        canBe();
        tellsMost();
        knobs();
        rows();
        odds();
        Due.end();
    }

    /** CLOTH of THICK 4 wants 4 and bears 1: LINT 40 makes it OFF by -2. */
    private static void afterAndUntil() {
        LoopsBelow x = new LoopsBelow();
        x.cloth(0, 4);
        x.cloth(20, 0);
        x.cloth(60, 4);
        Due.is("now", x.after(0, 0), 0);
        Due.is("behind 39", x.after(0, 39), 0);
        Due.is("behind 40", x.after(0, 40), 1);
        Due.is("behind 200", x.after(0, 200), 1);
        Due.is("behind 201", x.after(0, 201), Due.BEYOND);
        Due.is("behind -1", x.after(0, -1), Due.BEYOND);
        Due.is("no cloth", x.after(3, 0), Due.BEYOND);
        Due.is("until", x.until(0), 40);
        // DENIM of THICK 0 wants 2: OFF is 2, PUCKERED, until LINT is 20, by 2 a YARD.
        Due.is("denim", x.until(1), 10);
        Due.is("behind 9", x.after(1, 9), 2);
        Due.is("behind 10", x.after(1, 10), 0);
        Due.is("scrap leaves no lint", x.until(2), Due.NONE);
        Due.is("no cloth", x.until(3), Due.BEYOND);
        Due.is("no cloth below", x.until(-1), Due.BEYOND);
        Due.is("only thought: LINT", x.machine(4), 0);
        Due.is("only thought: YARDS", x.count(2), 0);
        Due.is("only thought: SECOND", x.count(1), 0);
        x.set(4, 99);
        Due.is("LINT is held", x.until(0), Due.NONE);
    }

    private static void untilByLimit() {
        LoopsBelow x = new LoopsBelow();
        x.cloth(0, 4);
        x.set(3, 1);
        Due.text(x, 1, "4-l/5");
        Due.is("limit 4, then 3, then 2", x.until(0), 10);
        Due.is("skipped", x.after(0, 10), 3);
        Due.is("skipped still", x.after(0, 200), 3);
    }

    private static void cures() {
        LoopsBelow x = new LoopsBelow();
        x.cloth(0, 4);
        Due.is("even costs nothing", x.cure(0, 0), 0);
        Due.is("as it is", x.cure(0, 1), 40);
        x.set(0, 1);
        x.set(3, 2);
        Due.is("both needed", x.cure(0, 0), 31);
        Due.is("set 3", x.cure(0, 1), 3040);
        // OFF is -4 by LINT: turning the KNOB by 3 costs 6, cleaning 9.
        x.set(4, 99);
        Due.is("knob is cheaper", x.cure(0, 0), 37);
        Due.is("knob 7", x.cure(0, 1), 3070);
        x.set(1, 9);
        x.set(2, 5);
        // OFF is -4: three of the SCREW (15), or clean (9) leaves 0.
        Due.is("clean", x.cure(0, 0), 40);
        Due.is("set 7", x.cure(0, 1), 7095);
        Due.is("no what", x.cure(0, 2), Due.BEYOND);
        Due.is("no what below", x.cure(0, -1), Due.BEYOND);
        Due.is("no cloth", x.cure(1, 0), Due.BEYOND);
        Due.text(x, 0, "19");
        Due.is("wants more than can be", x.cure(0, 0), Due.NONE);
        Due.is("nor a number", x.cure(0, 1), Due.NONE);
        Due.is("only thought", x.machine(2), 5);
    }

    /** Bent needles: slower isn't a DEED, so another one, or a limit that LINT lifts. */
    private static void cureTies() {
        LoopsBelow x = new LoopsBelow();
        x.cloth(0, 0);
        x.set(1, 9);
        x.set(2, 4);
        // WANTS 2: OFF is 3, two too many; 2 of the KNOB are 4, and less than the SCREW's 5.
        Due.is("knob", x.cure(0, 1), 74);
        x.set(3, 1);
        x.set(4, 99);
        x.set(5, 6);
        Due.text(x, 1, "9-l");
        // LINT 99 makes OFF -1, but the limit 0; clean (9) gives limit 9 and OFF 3, the KNOB 4 more.
        Due.is("clean is cheaper than a needle", x.cure(0, 0), 13);
        Due.is("set 4", x.cure(0, 1), 4074);
        LoopsBelow y = new LoopsBelow();
        y.cloth(10, 4);
        y.set(0, 1);
        y.set(1, 0);
        y.set(2, 2);
        // SILK wants 2, bears 0: OFF -4; KNOB 4 (8) or KNOB 2 and SCREW 0 (14).
        Due.is("set 1", y.cure(0, 1), 1042);
        Due.is("11 and 8", y.cure(0, 0), 19);
        LoopsBelow z = new LoopsBelow();
        z.cloth(10, 0);
        z.set(1, 0);
        z.set(2, 9);
        // SILK wants 0: OFF -9; KNOB 9 (18) alone is the cheapest.
        Due.is("knob 9", z.cure(0, 1), 99);
        LoopsBelow v = new LoopsBelow();
        v.cloth(0, 0);
        v.set(1, 7);
        v.set(2, 1);
        v.set(4, 60);
        Due.text(v, 0, "7");
        // OFF is -4, three too many: two of the KNOB and one of the SCREW are 9, as clean is.
        Due.is("9 either way", v.cure(0, 0), 9);
        Due.is("of several the least number", v.cure(0, 1), 90);
        LoopsBelow u = new LoopsBelow();
        u.cloth(10, 0);
        u.set(1, 0);
        Due.is("the number may be 0", u.cure(0, 1), 0);
        Due.is("and the SECONDS", u.cure(0, 0), 0);
    }

    private static void aloneDeeds() {
        LoopsBelow x = new LoopsBelow();
        x.cloth(0, 4);
        Due.is("even: what keeps it so", x.alone(0), 0b0111111);
        x.set(2, 5);
        x.set(1, 9);
        Due.is("no room for the knob", x.alone(0), 0b1110111);
        x.set(4, 99);
        Due.is("clean alone", x.alone(0), 0b100);
        x.set(3, 2);
        Due.is("none alone", x.alone(0), 0);
        x.set(4, 0);
        Due.is("needle alone", x.alone(0), 2);
        x.set(3, 0);
        x.set(0, 1);
        Due.is("threading alone", x.alone(0), 1);
        x.set(0, 0);
        x.set(2, 3);
        Due.is("off by 2: knob down, screw up", x.alone(0), 0b0110000);
        Due.is("no cloth", x.alone(1), Due.BEYOND);
        Due.is("no cloth below", x.alone(-1), Due.BEYOND);
        Due.is("only thought", x.count(1), 0);
    }

    private static void canBe() {
        LoopsBelow x = new LoopsBelow();
        Due.is("missing", x.canBe(0, 0), Due.NONE);
        x.sheet(0, 8, 0);
        Due.is("without cloths all", x.canBe(0, 0), 600);
        Due.is("the least of all", x.canBe(0, 1), 0);
        x.cloth(10, 4);
        Due.is("too few numbers", x.canBe(0, 0), Due.NONE);
        x.sheet(1, 16, 1);
        // SILK wants 2, bears 0: KNOB less SCREW is 2 by 8 ways; the needle good or bent (SPEED 3, limit 4).
        Due.is("even", x.canBe(1, 0), 16);
        Due.is("the least: knob 2", x.canBe(1, 1), 20);
        x.set(5, 5);
        Due.is("even, fast", x.canBe(1, 0), 8);
        x.put(1, 0, 3);
        Due.is("skipped: bent or turned", x.canBe(1, 0), 200);
        Due.is("least skipped", x.canBe(1, 1), 100);
        x.put(1, 0, 4);
        Due.is("nested", x.canBe(1, 0), 300);
        Due.is("least nested", x.canBe(1, 1), 1000);
        x.put(1, 0, -5);
        Due.is("not told", x.canBe(1, 0), 600);
        x.put(1, 0, 5);
        Due.is("never", x.canBe(1, 0), 0);
        Due.is("never, the least", x.canBe(1, 1), Due.NONE);
        x.put(1, 0, 0);
        x.set(4, 40);
        // Now KNOB less SCREW is 4, by 6 ways.
        Due.is("lint as it is", x.canBe(1, 0), 6);
        Due.is("lint, the least", x.canBe(1, 1), 40);
        Due.is("no sheet", x.canBe(4, 0), Due.BEYOND);
        Due.is("no sheet below", x.canBe(-1, 0), Due.BEYOND);
        Due.is("no what", x.canBe(1, 2), Due.BEYOND);
        Due.is("BEYOND ahead of NONE", x.canBe(2, 2), Due.BEYOND);
        Due.is("only thought", x.machine(1), 4);
    }

    private static void tellsMost() {
        LoopsBelow x = new LoopsBelow();
        x.sheet(0, 8, 0);
        Due.is("no cloths", x.tellsMost(0), Due.NONE);
        x.cloth(69, 4);
        x.cloth(0, 4);
        x.cloth(0, 4);
        Due.is("too few numbers", x.tellsMost(0), Due.NONE);
        Due.is("missing", x.tellsMost(1), Due.NONE);
        Due.is("no sheet", x.tellsMost(4), Due.BEYOND);
        Due.is("no sheet below", x.tellsMost(-1), Due.BEYOND);
        x.sheet(0, 32, 3);
        x.put(0, 0, 0);
        x.put(0, 1, -1);
        x.put(0, 2, -1);
        // All CAN BEs show the scrap even; the others tell them apart, the first of the two.
        Due.is("the first that tells", x.tellsMost(0), 1);
        Due.is("a good needle, a bent one, each by the same ways", x.canBe(0, 0), 2 * (10 + 9 + 8 + 7 + 6 + 5 + 4 + 3 + 2));
        x.put(0, 0, 5);
        Due.is("it CAN'T BE: all tell the same", x.tellsMost(0), 0);
        x.put(0, 0, -1);
        x.become(2, 10);
        x.put(0, 0, 4);
        Due.is("nested tells nothing", x.tellsMost(0), 0);
        x.put(0, 0, 0);
        x.put(0, 1, 0);
        // SCRAP wants 4, bears 4: 0 to 8; CLOTH 3 to 5; SILK wants 2: always PUCKERED there.
        Due.is("all of one showing: the least number", x.tellsMost(0), 0);
        x.become(2, 0);
        x.change(2, 0, 6);
        // CLOTH of THICK 6 wants 5, bears 1: 4 to 6, so that 3 is LOOPED.
        Due.is("tells 3 from 4 and 5", x.tellsMost(0), 2);
    }

    private static void knobs() {
        LoopsBelow x = new LoopsBelow();
        x.cloth(0, 4);
        x.cloth(10, 4);
        // CLOTH: 0 to 2 LOOPED, 3 to 5 EVEN, 6 on PUCKERED. SILK wants 2.
        Due.is("even, even", x.knobWas(0, 1, 0), 0);
        Due.is("even, puckered", x.knobWas(0, 1, 2), 0b111000);
        Due.is("puckered, even", x.knobWas(1, 0, 20), 0b111000);
        Due.is("looped, even", x.knobWas(0, 1, 10), 0b100);
        Due.is("looped, looped", x.knobWas(0, 1, 11), 0b11);
        Due.is("puckered both", x.knobWas(0, 1, 22), 0b1111000000);
        Due.is("skipped both", x.knobWas(0, 1, 33), 0);
        x.set(3, 2);
        Due.is("turned", x.knobWas(0, 1, 33), 1023);
        x.set(0, 1);
        Due.is("nested", x.knobWas(0, 1, 44), 1023);
        for (int shown : new int[] {-1, 5, 9, 45, 50, 54, 100, Integer.MIN_VALUE, Integer.MAX_VALUE}) {
            Due.is("no seam " + shown, x.knobWas(0, 1, shown), Due.BEYOND);
        }
        Due.is("one and the same", x.knobWas(1, 1, 0), Due.BEYOND);
        Due.is("no one", x.knobWas(2, 1, 0), Due.BEYOND);
        Due.is("no other", x.knobWas(0, 2, 0), Due.BEYOND);
        Due.is("below", x.knobWas(-1, 0, 0), Due.BEYOND);
        Due.is("only thought", x.machine(1), 4);
    }

    private static void rows() {
        LoopsBelow x = new LoopsBelow();
        Due.is("no cloths", x.row(1, 1, 0), Due.BEYOND);
        x.cloth(0, 4);
        x.cloth(10, 8);
        x.set(4, 10);
        // SILK wants 4, bears 0: EVEN while LINT is below 20, 10 YARDS; CLOTH until LINT is 40.
        Due.is("silk ahead", x.row(2, 10, 0), 0);
        Due.is("silk is first", x.row(2, 10, 1), 1);
        Due.is("one of them", x.row(1, 20, 1), 0);
        Due.is("one of one yard", x.row(1, 1, 0), 0);
        Due.is("one, none spoilt", x.row(1, 20, 0), 0);
        // Silk first: 10 of its 20, then CLOTH at LINT 30, 10 more. CLOTH first: none, then all 20 of silk.
        Due.is("20 either way", x.row(2, 20, 0), 20);
        Due.is("of several the first by numbers", x.row(2, 20, 1), 0);
        Due.is("more than there are", x.row(3, 1, 0), Due.BEYOND);
        Due.is("none", x.row(0, 1, 0), Due.BEYOND);
        Due.is("no yards", x.row(1, 0, 0), Due.BEYOND);
        Due.is("21 yards", x.row(1, 21, 0), Due.BEYOND);
        Due.is("no what", x.row(1, 1, 2), Due.BEYOND);
        Due.is("no what below", x.row(1, 1, -1), Due.BEYOND);
        for (int i = 0; i < 4; i++) {
            x.cloth(60, 4);
        }
        Due.is("five", x.row(5, 1, 0), Due.BEYOND);
        Due.is("four, scraps among them", x.row(4, 20, 0), 0);
        Due.is("the first by numbers", x.row(4, 20, 1), 0);
        x.change(2, 2, 9999);
        x.set(0, 1);
        Due.is("all, though SPOILT is held", x.row(4, 20, 0), 80);
        Due.is("only thought", x.count(2), 0);
        Due.is("only thought: LINT", x.machine(4), 10);
    }

    private static void odds() {
        LoopsBelow x = new LoopsBelow();
        x.cloth(0, 4);
        int[] above = {1, 1, 3, 2, 1, 3, 7, 4, 9, 1};
        int[] below = {10, 5, 10, 5, 2, 5, 10, 5, 10, 1};
        Due.is("good needle", x.odds(0, 0), 1);
        Due.is("good needle, below", x.odds(0, 1), 1);
        x.set(3, 1);
        for (int limit = 0; limit < 10; limit++) {
            Due.text(x, 1, Integer.toString(limit));
            Due.is("by limit " + limit, x.odds(0, 0), above[limit]);
            Due.is("by limit, below " + limit, x.odds(0, 1), below[limit]);
        }
        x.set(3, 2);
        Due.is("never", x.odds(0, 0), 0);
        Due.is("never, below", x.odds(0, 1), 1);
        Due.is("no part", x.odds(0, 2), Due.BEYOND);
        Due.is("no part below", x.odds(0, -1), Due.BEYOND);
        Due.is("no cloth", x.odds(1, 0), Due.BEYOND);
        Due.is("only thought", x.machine(5), 3);
    }
}
