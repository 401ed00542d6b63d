import java.util.Random;

/** Promises 1 to 37: long runs of drawn calls, each answered by the class and by PlainModel alike. */
public final class PlainModelTest {
    private static final String[] CALLS = {
        "set", "set", "set", "machine", "cloth", "cloth", "ofCloth", "ofCloth", "change", "become", "as", "texts", "texts",
        "feed", "text", "law", "sew", "sew", "deed", "loose", "after", "until", "cure", "alone", "canBe", "sheetOfCloths",
        "canBe", "tellsMost", "knobWas", "row", "odds", "seed", "voice", "voice", "trace", "sheet", "put", "put",
        "move", "thicks", "judge", "image", "restore", "tell", "tellTrue", "check", "count", "told"
    };
    private static final int[] ODD = {Integer.MIN_VALUE, Integer.MAX_VALUE, -2, -1, 0, 1, 41, 1000, 0x7fffff00, 255};

    private final Random r;
    private final LoopsBelow x = new LoopsBelow();
    private final PlainModel p = new PlainModel();
    private final StringBuilder log = new StringBuilder();
    private int calls = 0;

    private PlainModelTest(long seed) {
        r = new Random(seed);
    }

    public static void main(String[] args) {
        int runs = args.length > 0 ? Integer.parseInt(args[0]) : 400;
        long from = args.length > 1 ? Long.parseLong(args[1]) : 0;
        for (long seed = from; seed < from + runs; seed++) {
            new PlainModelTest(seed).run(seed);
        }
        Due.end();
    }

    private void run(long seed) {
        int calm = (int) (seed % 4);
        if (seed % 5 == 0) {
            sewUpToTheLastSeconds();
        }
        while (calls < 512) {
            one(CALLS[r.nextInt(CALLS.length)], calm);
        }
    }

    /** Drawn calls alone seldom bring SECOND near 99999. */
    private void sewUpToTheLastSeconds() {
        ask("cloth", r.nextInt(70), r.nextInt(10));
        ask("set", 5, 0);
        for (int i = 0; i < 49; i++) {
            ask("sew", 0, 200);
        }
        ask("set", 4, r.nextInt(100));
    }

    private int number(int least, int most, int calm) {
        int chance = r.nextInt(calm == 0 ? 8 : 40);
        if (chance == 0) {
            return ODD[r.nextInt(ODD.length)];
        }
        if (chance == 1) {
            return r.nextBoolean() ? least - 1 : most + 1;
        }
        return least + r.nextInt(most - least + 1);
    }

    private int anyCloth(int calm) {
        int many = p.w.cloths.size();
        return many == 0 ? number(0, 5, calm) : number(0, many - 1, calm);
    }

    private void one(String name, int c) {
        switch (name) {
            case "set": {
                int what = number(0, 5, c);
                int most = what >= 0 && what < 6 ? new int[] {1, 9, 9, 2, 99, 9}[what] : 9;
                // THREADING wrong hides all else, so it is seldom.
                ask(name, what, what == 0 && r.nextInt(4) != 0 ? 0 : number(0, most, c));
                break;
            }
            case "machine": ask(name, number(0, 5, c)); break;
            case "cloth": ask(name, number(0, 69, c), number(0, 9, c)); break;
            case "ofCloth": ask(name, anyCloth(c), number(0, 8, c)); break;
            case "change": {
                int what = number(0, 2, c);
                ask(name, anyCloth(c), what, what == 0 ? number(0, 9, c) : r.nextInt(3) == 0 ? 9990 : number(0, 9999, c));
                break;
            }
            case "become": ask(name, anyCloth(c), number(0, 69, c)); break;
            case "as": ask(name, anyCloth(c), number(0, 6, c)); break;
            case "texts": texts(); break;
            case "feed": feed(r.nextLong(), number(1, 8, c)); break;
            case "text": ask(name, number(0, 1, c)); break;
            case "law": ask(name, number(0, 1, c), number(-9, 99, c), number(-9, 99, c), number(-9, 99, c)); break;
            case "sew": ask(name, anyCloth(c), r.nextInt(3) == 0 ? number(1, 200, c) : number(1, 9, c)); break;
            case "deed": ask(name, number(0, 6, c)); break;
            case "loose": ask(name, number(1, 40, c)); break;
            case "after": ask(name, anyCloth(c), number(0, 200, c)); break;
            case "until":
            case "alone": ask(name, anyCloth(c)); break;
            case "cure":
            case "odds": ask(name, anyCloth(c), number(0, 1, c)); break;
            case "canBe": ask(name, number(0, 3, c), number(0, 1, c)); break;
            case "sheetOfCloths": sheetOfCloths(); break;
            case "tellsMost":
            case "thicks":
            case "judge": ask(name, number(0, 3, c)); break;
            case "knobWas": ask(name, anyCloth(c), anyCloth(c), r.nextInt(4) == 0 ? number(0, 49, c) : r.nextInt(3) * 10 + r.nextInt(3)); break;
            case "row": ask(name, number(1, 4, c), number(1, 20, c), number(0, 1, c)); break;
            case "voice": ask(name, anyCloth(c), number(0, 3, c), r.nextBoolean() ? r.nextInt() : number(-9, 9, c)); break;
            case "trace": ask(name, number(0, 9, c)); break;
            case "sheet": ask(name, number(0, 3, c), r.nextInt(9) == 0 ? number(0, 33, c) : 8 << r.nextInt(3), number(0, r.nextBoolean() ? 40 : 6, c)); break;
            case "put": ask(name, number(0, 3, c), number(0, 5, c), r.nextInt(5) == 0 ? r.nextInt() : number(-2, 9, c)); break;
            case "move": ask(name, number(0, 3, c), number(0, 5, c), number(0, 3, c), number(0, 5, c), number(0, 5, c)); break;
            case "seed": ask(name, r.nextInt()); break;
            case "image":
            case "restore":
            case "check": ask(name); break;
            case "tell": ask(name, number(0, 4, c)); break;
            case "tellTrue": tellTrue(); break;
            case "count": ask(name, number(0, 7, c)); break;
            default: ask("told", number(1, 5, c));
        }
    }

    /** A sheet that tells what the cloths do show, some of it not told, some changed. */
    private void sheetOfCloths() {
        int sheet = r.nextInt(4);
        int many = p.w.cloths.size();
        ask("sheet", sheet, 8 << r.nextInt(3), many);
        for (int i = 0; i < many; i++) {
            int v = r.nextInt(3) == 0 ? -1 : r.nextInt(8) == 0 ? r.nextInt(5) : p.w.shows(p.w.cloths.get(i));
            ask("put", sheet, i, v);
        }
        ask("canBe", sheet, 0);
        ask("canBe", sheet, 1);
        ask("tellsMost", sheet);
        ask("judge", sheet);
    }

    private void tellTrue() {
        ask("check");
        int n = r.nextInt(22);
        for (int i = 1; i <= n; i++) {
            int v = p.w.cloths.isEmpty() ? 0 : r.nextInt(30) == 0 ? r.nextInt(5) : p.call("after", 0, 0, i);
            ask("tell", v);
        }
        ask("check");
    }

    private void texts() {
        int use = r.nextInt(2);
        StringBuilder t = new StringBuilder(drawn(use == 0 ? "tmk" : "tml", 3));
        int changes = r.nextInt(3) == 0 ? 1 + r.nextInt(2) : 0;
        for (int i = 0; i < changes && t.length() > 0; i++) {
            int at = r.nextInt(t.length());
            char c = "tmkl0123456789|&<=>+-*/%!() x".charAt(r.nextInt(29));
            switch (r.nextInt(3)) {
                case 0: t.insert(at, c); break;
                case 1: t.setCharAt(at, c); break;
                default: t.deleteCharAt(at);
            }
        }
        if (r.nextInt(20) != 0) {
            ask("text", 1 - use);
        }
        for (int at = 0; at < t.length(); ) {
            int n = Math.min(1 + r.nextInt(8), t.length() - at);
            long word = r.nextLong();
            for (int i = 0; i < n; i++) {
                word = word & ~(255L << 8 * i) | (long) t.charAt(at + i) << 8 * i;
            }
            feed(word, n);
            at += n;
        }
        ask("text", use);
    }

    private String drawn(String names, int depth) {
        switch (depth == 0 ? r.nextInt(3) : r.nextInt(12)) {
            case 0: return Integer.toString(r.nextInt(r.nextBoolean() ? 10 : 10000));
            case 1:
            case 2: return names.substring(r.nextInt(3)).substring(0, 1);
            case 3: return "!" + drawn(names, depth - 1);
            case 4: return "(" + drawn(names, depth - 1) + ")";
            default: return drawn(names, depth - 1) + "|&<=>+-*/%".charAt(r.nextInt(10)) + drawn(names, depth - 1);
        }
    }

    private void feed(long word, int n) {
        if (calls++ >= 512) {
            return;
        }
        check("feed(" + word + ", " + n + ")", x.feed(word, n), p.call("feed", word, n));
    }

    private void ask(String name, int... a) {
        if (calls++ >= 512) {
            return;
        }
        check(name + java.util.Arrays.toString(a), of(name, a), p.call(name, 0, a));
    }

    private void check(String call, int got, int want) {
        log.append(call).append(" = ").append(want).append('\n');
        Due.is(call, got, want);
        if (got != want) {
            System.out.println("behind these calls:\n" + log);
            System.exit(1);
        }
    }

    private int of(String name, int[] a) {
        switch (name) {
            case "set": return x.set(a[0], a[1]);
            case "machine": return x.machine(a[0]);
            case "cloth": return x.cloth(a[0], a[1]);
            case "ofCloth": return x.ofCloth(a[0], a[1]);
            case "change": return x.change(a[0], a[1], a[2]);
            case "become": return x.become(a[0], a[1]);
            case "as": return x.as(a[0], a[1]);
            case "text": return x.text(a[0]);
            case "law": return x.law(a[0], a[1], a[2], a[3]);
            case "sew": return x.sew(a[0], a[1]);
            case "deed": return x.deed(a[0]);
            case "loose": return x.loose(a[0]);
            case "after": return x.after(a[0], a[1]);
            case "until": return x.until(a[0]);
            case "cure": return x.cure(a[0], a[1]);
            case "alone": return x.alone(a[0]);
            case "canBe": return x.canBe(a[0], a[1]);
            case "tellsMost": return x.tellsMost(a[0]);
            case "knobWas": return x.knobWas(a[0], a[1], a[2]);
            case "row": return x.row(a[0], a[1], a[2]);
            case "odds": return x.odds(a[0], a[1]);
            case "seed": return x.seed(a[0]);
            case "voice": return x.voice(a[0], a[1], a[2]);
            case "trace": return x.trace(a[0]);
            case "sheet": return x.sheet(a[0], a[1], a[2]);
            case "put": return x.put(a[0], a[1], a[2]);
            case "move": return x.move(a[0], a[1], a[2], a[3], a[4]);
            case "thicks": return x.thicks(a[0]);
            case "judge": return x.judge(a[0]);
            case "image": return x.image();
            case "restore": return x.restore();
            case "tell": return x.tell(a[0]);
            case "check": return x.check();
            case "count": return x.count(a[0]);
            default: return x.told(a[0]);
        }
    }
}
