/** Promises 2 and 3: set, machine. */
public final class MachineTest {
    private static final int[] MOST = {1, 9, 9, 2, 99, 9};
    private static final int[] FIRST = {0, 4, 0, 0, 0, 3};

    public static void main(String[] args) {
        LoopsBelow x = new LoopsBelow();
        for (int what = 0; what < 6; what++) {
            Due.is("set to the most", x.set(what, MOST[what]), FIRST[what]);
            Due.is("is the most", x.machine(what), MOST[what]);
            Due.is("above the most", x.set(what, MOST[what] + 1), Due.BEYOND);
            Due.is("below 0", x.set(what, -1), Due.BEYOND);
            Due.is("far below 0", x.set(what, Integer.MIN_VALUE), Due.BEYOND);
            Due.is("far above", x.set(what, Integer.MAX_VALUE), Due.BEYOND);
            Due.is("stays", x.machine(what), MOST[what]);
            Due.is("set to 0", x.set(what, 0), MOST[what]);
            Due.is("is 0", x.machine(what), 0);
        }
        for (int what : new int[] {-1, 6, Integer.MIN_VALUE, Integer.MAX_VALUE}) {
            Due.is("set no part", x.set(what, 0), Due.BEYOND);
            Due.is("no part", x.machine(what), Due.BEYOND);
        }
        Due.is("each once counted", x.told(1), 6 * 4 + 4 * 2);
        Due.is("takes no time", x.count(1), 0);
        Due.end();
    }
}
