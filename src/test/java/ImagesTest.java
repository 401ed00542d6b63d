/** Promises 32 to 35: image, restore, tell, check. */
public final class ImagesTest {
    public static void main(String[] args) {
        all();
        whatIsLeftOut();
        telling();
        checking();
        Due.end();
    }

    private static void all() {
        LoopsBelow x = new LoopsBelow();
        Due.is("none", x.restore(), Due.NONE);
        x.cloth(25, 6);
        x.sew(0, 3);
        Due.text(x, 0, "t+1");
        Due.tape(x, "m+k");
        x.tell(8);
        x.seed(77);
        Due.is("the first", x.image(), 1);
        int[] parts = {1, 9, 8, 2, 50, 0};
        for (int what = 0; what < 6; what++) {
            x.set(what, parts[what]);
        }
        x.sew(0, 9);
        x.cloth(0, 0);
        x.become(0, 69);
        x.change(0, 0, 0);
        x.tell(9);
        x.seed(1);
        Due.is("another text", x.text(0), 1);
        Due.text(x, 1, "9");
        Due.is("SECOND", x.restore(), 21);
        int[] were = {0, 4, 0, 0, 6, 3};
        for (int what = 0; what < 6; what++) {
            Due.is("part " + what, x.machine(what), were[what]);
        }
        int[] counts = {1, 21, 3, 3, 3, 1, 0, 77};
        for (int what = 0; what < 8; what++) {
            Due.is("count " + what, x.count(what), counts[what]);
        }
        Due.is("kind", x.ofCloth(0, 0), 2);
        Due.is("m", x.ofCloth(0, 1), 5);
        Due.is("thick", x.ofCloth(0, 2), 6);
        Due.is("text", x.law(0, 4, 0, 0), 5);
        Due.is("no limit", x.law(1, 4, 0, 0), 4);
        Due.is("the tape as it was", x.text(0), 1);
        Due.is("its text", x.law(0, 9, 4, 3), 7);
        Due.is("the number that waits", x.check(), 1);
        Due.is("again, it stays", x.restore(), 21);
        Due.is("text again", x.law(0, 4, 0, 0), 5);
        x.set(1, 7);
        Due.is("the second", x.image(), 2);
        x.set(1, 1);
        x.restore();
        Due.is("in place of the one ahead", x.machine(1), 7);
    }

    private static void whatIsLeftOut() {
        LoopsBelow x = new LoopsBelow();
        x.cloth(0, 5);
        x.image();
        x.image();
        x.sheet(0, 8, 1);
        x.put(0, 0, 3);
        x.voice(0, 1, 0);
        x.set(9, 9);
        x.restore();
        Due.is("sheets stay", x.thicks(0), 1);
        Due.is("their numbers stay", x.ofCloth(0, 2), 3);
        Due.is("the trace stays", x.count(6), 2);
        Due.is("told stays", x.told(1), 1);
        Due.is("how often stays", x.image(), 3);
    }

    private static void telling() {
        LoopsBelow x = new LoopsBelow();
        for (int i = 1; i <= 20; i++) {
            Due.is("waits", x.tell(-i), i);
        }
        Due.is("21", x.tell(0), Due.FULL);
        Due.is("20 wait", x.count(5), 20);
        Due.is("without cloths none is so", x.check(), 1);
        Due.is("none wait", x.count(5), 0);
        Due.is("none to be wrong", x.check(), 0);
    }

    /** DENIM of THICK 0 is PUCKERED until LINT is 20, by 2 a YARD: EVEN behind 10 YARDS. */
    private static void checking() {
        LoopsBelow x = new LoopsBelow();
        x.cloth(20, 0);
        x.tell(2);
        Due.is("one cloth is enough", x.check(), 0);
        x.cloth(69, 9);
        for (int i = 1; i <= 20; i++) {
            x.tell(i < 10 ? 2 : 0);
        }
        Due.is("all so", x.check(), 0);
        Due.is("none wait", x.count(5), 0);
        for (int i = 1; i <= 12; i++) {
            x.tell(2);
        }
        Due.is("the tenth isn't", x.check(), 10);
        Due.is("none wait", x.count(5), 0);
        x.tell(5);
        Due.is("no seam", x.check(), 1);
        Due.is("only thought", x.machine(4), 0);
        Due.is("no yards", x.count(2), 0);
        Due.is("no ERROR", x.told(1), 0);
    }
}
