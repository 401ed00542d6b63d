/** Promise 1: all as at first. */
public final class NewObjectTest {
    public static void main(String[] args) {
        LoopsBelow old = new LoopsBelow();
        use(old);
        asAtFirst(new LoopsBelow());
        Due.is("the old one is as it was", old.count(2), 3);
        Due.end();
    }

    /** Objects share nothing: what is done to one isn't seen in another. */
    private static void use(LoopsBelow old) {
        for (int what = 0; what < 6; what++) {
            old.set(what, 1);
        }
        old.cloth(69, 9);
        old.sew(0, 3);
        old.voice(0, 3, 1);
        old.tell(4);
        old.seed(9);
        old.image();
        for (int sheet = 0; sheet < 4; sheet++) {
            old.sheet(sheet, 8, 1);
        }
        Due.text(old, 0, "9");
        Due.text(old, 1, "9");
        Due.tape(old, "abc");
        old.told(6);
    }

    private static void asAtFirst(LoopsBelow x) {
        int[] first = {0, 4, 0, 0, 0, 3};
        for (int what = 0; what < 6; what++) {
            Due.is("machine " + what, x.machine(what), first[what]);
        }
        for (int what = 0; what < 7; what++) {
            Due.is("count " + what, x.count(what), 0);
        }
        Due.is("z", x.count(7), 1);
        for (int k = 1; k <= 5; k++) {
            Due.is("told " + k, x.told(k), 0);
        }
        Due.is("no cloth", x.ofCloth(0, 0), Due.BEYOND);
        Due.is("no trace", x.trace(0), Due.NONE);
        Due.is("no image", x.restore(), Due.NONE);
        for (int sheet = 0; sheet < 4; sheet++) {
            Due.is("sheet missing " + sheet, x.put(sheet, 0, 0), Due.NONE);
        }
        Due.is("wanted without a text", x.law(0, 5, 0, 0), 4);
        Due.is("limit without a text", x.law(1, 5, 0, 0), 4);
    }
}
