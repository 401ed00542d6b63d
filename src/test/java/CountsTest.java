/** Promises 36 and 37: count, told; and that an ERROR changes nothing else. */
public final class CountsTest {
    public static void main(String[] args) {
        counting();
        telling();
        Due.end();
    }

    private static void counting() {
        LoopsBelow x = new LoopsBelow();
        x.cloth(0, 4);
        x.cloth(10, 4);
        x.sew(0, 3);
        x.sew(1, 2);
        x.change(0, 1, 9000);
        x.change(1, 1, 9000);
        Due.tape(x, "abc");
        x.tell(1);
        x.tell(1);
        x.voice(1, 3, 1);
        x.seed(-7);
        int[] want = {2, 35, 18000, 2, 3, 2, 5, -7};
        for (int what = 0; what < 8; what++) {
            Due.is("count " + what, x.count(what), want[what]);
        }
        Due.is("no what", x.count(8), Due.BEYOND);
        Due.is("no what below", x.count(-1), Due.BEYOND);
    }

    private static void telling() {
        LoopsBelow x = new LoopsBelow();
        x.machine(6);
        x.trace(0);
        x.restore();
        x.deed(6);
        x.cloth(0, 0);
        x.as(0, 1);
        x.as(0, 2);
        for (int i = 0; i < 7; i++) {
            x.feed(0, 8);
        }
        int[] want = {1, 2, 1, 1, 2};
        for (int k = 1; k <= 5; k++) {
            Due.is("told " + k, x.told(k), want[k - 1]);
        }
        Due.is("none such", x.told(0), Due.BEYOND);
        Due.is("none such", x.told(6), Due.BEYOND);
        Due.is("far", x.told(Integer.MIN_VALUE), Due.BEYOND);
        Due.is("far", x.told(Integer.MAX_VALUE), Due.BEYOND);
        Due.is("counted, too", x.told(1), 5);
        Due.is("the one that is FULL changed nothing", x.count(4), 48);
    }
}
