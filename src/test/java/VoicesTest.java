/** Promises 24 to 26: seed, voice, trace. */
public final class VoicesTest {
    public static void main(String[] args) {
        seeds();
        bodies();
        wrongOnes();
        Due.end();
    }

    private static void seeds() {
        LoopsBelow x = new LoopsBelow();
        Due.is("1 at first", x.seed(-1000000001), 1);
        Due.is("any number", x.seed(Integer.MIN_VALUE), -1000000001);
        Due.is("which is no ERROR", x.told(1), 0);
        Due.is("z", x.count(7), Integer.MIN_VALUE);
    }

    /** The cloth is number 2, m is 7. */
    private static void voice(int kind, int act, int x, int want, int... bodies) {
        LoopsBelow it = new LoopsBelow();
        it.cloth(0, 0);
        it.cloth(0, 0);
        it.cloth(10 * kind + 7, 0);
        String what = "kind " + kind + " act " + act;
        Due.is(what, it.voice(2, act, x), want);
        Due.is(what + ": bodies", it.count(6), bodies.length);
        for (int i = 0; i < bodies.length; i++) {
            Due.is(what + ": body " + i, it.trace(i), bodies[i]);
        }
        Due.is(what + ": no more", it.trace(bodies.length), Due.NONE);
        Due.is(what + ": none below", it.trace(-1), Due.NONE);
    }

    private static void bodies() {
        voice(0, 0, 5, 7, 10);
        voice(0, 1, 5, 14, 11, 10);
        voice(0, 2, 5, -2, 12);
        voice(0, 3, 5, 14 ^ -2, 13, 11, 10, 12);
        voice(0, 0, Integer.MAX_VALUE, Integer.MIN_VALUE + 1, 10);
        voice(1, 0, 5, 21, 20, 10);
        voice(1, 1, 5, 42, 11, 20, 10);
        voice(1, 3, 5, 42 ^ -2, 13, 11, 20, 10, 12);
        // 14 less (1 - 7)
        voice(2, 1, 5, 20, 30, 11, 10, 12);
        voice(2, 3, 5, 20 ^ -2, 13, 30, 11, 10, 12, 12);
        voice(3, 2, 5, 2, 40, 12);
        voice(3, 3, 5, 14 ^ 2, 13, 11, 10, 40, 12);
        voice(3, 0, 5, 7, 10);
        // threads(2) is (2 + 2) * 3
        voice(4, 3, 5, (42 ^ -2) - 12, 50, 13, 11, 20, 10, 12, 20, 10);
        voice(4, 0, 5, 21, 20, 10);
        // (6 + 2) * 2 less (1 - 7)
        voice(5, 1, 5, 22, 60, 30, 11, 10, 12);
        voice(5, 3, 5, 22 ^ -2, 13, 60, 30, 11, 10, 12, 12);
        voice(6, 2, 5, 2 ^ 2, 70, 40, 12);
        voice(6, 2, 6, 1 ^ 2, 70, 40, 12);
        voice(6, 3, 5, 14 - (14 ^ 0), 71, 11, 10, 13, 11, 10, 70, 40, 12);
        voice(6, 3, 6, 16 - (16 ^ 3), 71, 11, 10, 13, 11, 10, 70, 40, 12);
    }

    private static void wrongOnes() {
        LoopsBelow x = new LoopsBelow();
        Due.is("no cloth", x.voice(0, 0, 0), Due.BEYOND);
        x.cloth(0, 0);
        x.voice(0, 1, 0);
        Due.is("no cloth", x.voice(1, 0, 0), Due.BEYOND);
        Due.is("no cloth below", x.voice(-1, 0, 0), Due.BEYOND);
        Due.is("no act", x.voice(0, 4, 0), Due.BEYOND);
        Due.is("no act below", x.voice(0, -1, 0), Due.BEYOND);
        Due.is("the trace stays", x.trace(0), 11);
        Due.is("two bodies", x.count(6), 2);
        Due.is("far", x.trace(Integer.MAX_VALUE), Due.NONE);
        Due.is("far below", x.trace(Integer.MIN_VALUE), Due.NONE);
        Due.is("any number", x.voice(0, 0, -1000000001), -1000000001);
        Due.is("is no ERROR", x.told(1), 5);
        Due.is("the latest alone", x.count(6), 1);
    }
}
