import java.util.ArrayList;
import java.util.List;

/**
 * The document once more, by other means than the class: KINDS are Java classes with super calls,
 * a TEXT is split at its operators, a FAULT is searched by trying to complete each beginning, rows
 * are all tried by sewing. It is slow and makes objects freely; PlainModelTest compares the two.
 */
final class PlainModel {
    /** An ERROR on its way out of a call. */
    static final class Error extends RuntimeException {
        private static final long serialVersionUID = 1;
        final int k;

        Error(int k) {
            super("ERROR " + k, null, false, false);
            this.k = k;
        }
    }

    static class Fabric {
        int kind;
        int n;
        int m;
        int thick;
        int yards;
        int spoilt;
        List<Integer> trace = new ArrayList<>();

        int wants(int v) { return v; }
        int bears() { return 1; }
        int lint() { return 1; }
        int threads(int x) { trace.add(10); return x + n; }
        int sews(int x) { trace.add(11); return threads(x) * 2; }
        int shows(int x) { trace.add(12); return x - m; }
        int folds(int x) { trace.add(13); int left = sews(x); return left ^ shows(x); }
    }

    static class Silk extends Fabric {
        @Override int wants(int v) { return super.wants(v) - 2; }
        @Override int bears() { return 0; }
        @Override int threads(int x) { trace.add(20); return super.threads(x) * 3; }
    }

    static class Denim extends Fabric {
        @Override int wants(int v) { return super.wants(v) + thick / 2; }
        @Override int lint() { return 2; }
        @Override int sews(int x) { trace.add(30); int left = super.sews(x); return left - shows(1); }
    }

    static class Knit extends Fabric {
        @Override int wants(int v) { return super.wants(v) + m % 3; }
        @Override int bears() { return 2; }
        @Override int shows(int x) { trace.add(40); return -super.shows(x); }
    }

    static final class Velvet extends Silk {
        @Override int wants(int v) { return super.wants(v) + 1; }
        @Override int folds(int x) { trace.add(50); int left = super.folds(x); return left - threads(2); }
    }

    static final class Curtain extends Denim {
        @Override int wants(int v) { return super.wants(v) - m % 2; }
        @Override int bears() { return super.bears() + 1; }
        @Override int sews(int x) { trace.add(60); return super.sews(x + 1); }
    }

    static final class Scrap extends Knit {
        @Override int bears() { return super.bears() + m / 4; }
        @Override int lint() { return 0; }
        @Override int shows(int x) { trace.add(70); return super.shows(x) ^ n; }
        @Override int folds(int x) { trace.add(71); int left = sews(x); return left - super.folds(x); }
    }

    static Fabric fabric(int kind) {
        Fabric[] all = {new Fabric(), new Silk(), new Denim(), new Knit(), new Velvet(), new Curtain(), new Scrap()};
        all[kind].kind = kind;
        return all[kind];
    }

    static Fabric copy(Fabric f, int kind) {
        Fabric g = fabric(kind);
        g.n = f.n;
        g.m = f.m;
        g.thick = f.thick;
        g.yards = f.yards;
        g.spoilt = f.spoilt;
        return g;
    }

    /** All that an IMAGE keeps. */
    static final class World {
        int[] part = {0, 4, 0, 0, 0, 3};
        int second = 0;
        int z = 1;
        List<Fabric> cloths = new ArrayList<>();
        String[] texts = new String[2];
        String tape = "";
        List<Integer> waiting = new ArrayList<>();

        World copied() {
            World w = new World();
            w.part = part.clone();
            w.second = second;
            w.z = z;
            for (Fabric f : cloths) {
                w.cloths.add(copy(f, f.kind));
            }
            w.texts = texts.clone();
            w.tape = tape;
            w.waiting = new ArrayList<>(waiting);
            return w;
        }

        int law(int use, int a, int b, int c) {
            String t = texts[use];
            if (use == 0) {
                int v = t == null ? 2 + a / 2 : Grammar.value(t, "tmk", new int[] {a, b, c});
                return v < -9 ? -9 : v > 19 ? 19 : v;
            }
            int v = t == null ? 4 : Grammar.value(t, "tml", new int[] {a, b, c});
            return v < 0 ? 0 : v > 9 ? 9 : v;
        }

        int wants(Fabric f) {
            return f.wants(law(0, f.thick, f.m, f.kind));
        }

        int off(Fabric f) {
            return part[1] - part[2] - part[4] / 20 - wants(f);
        }

        int shows(Fabric f) {
            if (part[0] == 1) {
                return 4;
            }
            if (part[3] == 2 || part[3] == 1 && part[5] > law(1, f.thick, f.m, part[4])) {
                return 3;
            }
            int off = off(f);
            if (Math.abs(off) <= f.bears()) {
                return 0;
            }
            return off < 0 ? 1 : 2;
        }

        boolean yard(Fabric f) {
            boolean spoils = shows(f) != 0;
            if (spoils && f.spoilt < 9999) {
                f.spoilt++;
            }
            if (f.yards < 9999) {
                f.yards++;
            }
            part[4] = Math.min(99, part[4] + f.lint());
            second += 10 - part[5];
            return spoils;
        }

        /** Does a DEED if KNOB and SCREW allow it. */
        boolean deed(int deed) {
            int[] which = {0, 3, 4, 1, 1, 2, 2};
            int[] cost = {11, 20, 9, 2, 2, 5, 5};
            int v = deed < 3 ? 0 : part[which[deed]] + (deed % 2 == 1 ? 1 : -1);
            if (v < 0 || v > 9) {
                return false;
            }
            part[which[deed]] = v;
            second += cost[deed];
            return true;
        }

        int draw() {
            z = z * 1103515245 + 12345;
            return z >>> 8;
        }
    }

    static final class Page {
        int bits;
        int[] numbers;
    }

    World w = new World();
    private World kept = null;
    private int images = 0;
    private final Page[] pages = new Page[4];
    private List<Integer> trace = new ArrayList<>();
    private final int[] told = new int[6];

    private static void ask(boolean fine, int k) {
        if (!fine) {
            throw new Error(k);
        }
    }

    private Fabric cloth(int i) {
        ask(i >= 0 && i < w.cloths.size(), 1);
        return w.cloths.get(i);
    }

    private static void within(int v, int least, int most) {
        ask(v >= least && v <= most, 1);
    }

    /** A call by its name; the long of feed() comes apart. */
    int call(String name, long word, int... a) {
        try {
            return answer(name, word, a);
        } catch (Error e) {
            told[e.k]++;
            return -1000000000 - e.k;
        }
    }

    private int answer(String name, long word, int[] a) {
        switch (name) {
            case "set": {
                within(a[0], 0, 5);
                within(a[1], 0, new int[] {1, 9, 9, 2, 99, 9}[a[0]]);
                int was = w.part[a[0]];
                w.part[a[0]] = a[1];
                return was;
            }
            case "machine":
                within(a[0], 0, 5);
                return w.part[a[0]];
            case "cloth": {
                within(a[0], 0, 69);
                within(a[1], 0, 9);
                ask(w.cloths.size() < 6, 4);
                Fabric f = fabric(a[0] / 10);
                f.m = a[0] % 10;
                f.thick = a[1];
                f.n = w.cloths.size();
                w.cloths.add(f);
                return f.n;
            }
            case "ofCloth": {
                Fabric f = cloth(a[0]);
                within(a[1], 0, 8);
                return new int[] {f.kind, f.m, f.thick, f.yards, f.spoilt, w.wants(f), f.bears(), w.off(f), w.shows(f)}[a[1]];
            }
            case "change": {
                Fabric f = cloth(a[0]);
                within(a[1], 0, 2);
                within(a[2], 0, a[1] == 0 ? 9 : 9999);
                int was = new int[] {f.thick, f.yards, f.spoilt}[a[1]];
                switch (a[1]) {
                    case 0: f.thick = a[2]; break;
                    case 1: f.yards = a[2]; break;
                    default: f.spoilt = a[2];
                }
                return was;
            }
            case "become": {
                Fabric f = cloth(a[0]);
                within(a[1], 0, 69);
                Fabric g = copy(f, a[1] / 10);
                g.m = a[1] % 10;
                w.cloths.set(a[0], g);
                return f.kind;
            }
            case "as": {
                Fabric f = cloth(a[0]);
                within(a[1], 0, 6);
                ask(fabric(a[1]).getClass().isInstance(f), 5);
                return f.m;
            }
            case "feed": {
                within(a[0], 1, 8);
                ask(w.tape.length() + a[0] <= 50, 4);
                for (int i = 0; i < a[0]; i++) {
                    w.tape += (char) (word >> 8 * i & 255);
                }
                return w.tape.length();
            }
            case "text": {
                within(a[0], 0, 1);
                String t = w.tape;
                w.tape = "";
                int fault = Grammar.fault(t, a[0] == 0 ? "tmk" : "tml");
                if (fault >= 0) {
                    return -10 - fault;
                }
                w.texts[a[0]] = t;
                return 1;
            }
            case "law":
                within(a[0], 0, 1);
                return w.law(a[0], a[1], a[2], a[3]);
            default:
                return answerOfYards(name, a);
        }
    }

    private int answerOfYards(String name, int[] a) {
        switch (name) {
            case "sew": {
                Fabric f = cloth(a[0]);
                within(a[1], 1, 200);
                ask(w.second + a[1] * (10 - w.part[5]) <= 99999, 3);
                int spoilt = 0;
                for (int i = 0; i < a[1]; i++) {
                    spoilt += w.yard(f) ? 1 : 0;
                }
                return spoilt;
            }
            case "deed": {
                within(a[0], 0, 6);
                World u = w.copied();
                ask(u.deed(a[0]) && u.second <= 99999, 3);
                w.deed(a[0]);
                return w.second;
            }
            case "loose": {
                within(a[0], 1, 40);
                ask(w.second + 30 * a[0] <= 99999, 3);
                int spoilt = 0;
                for (int i = 0; i < a[0]; i++) {
                    w.deed(w.draw() % 7);
                    int second = w.draw();
                    if (!w.cloths.isEmpty()) {
                        spoilt += w.yard(w.cloths.get(second % w.cloths.size())) ? 1 : 0;
                    }
                }
                return spoilt;
            }
            case "after":
                cloth(a[0]);
                within(a[1], 0, 200);
                return after(a[0], a[1]);
            case "until": {
                cloth(a[0]);
                World u = w.copied();
                int now = u.shows(u.cloths.get(a[0]));
                for (int n = 0; n <= 200; n++) {
                    if (u.shows(u.cloths.get(a[0])) != now) {
                        return n;
                    }
                    u.yard(u.cloths.get(a[0]));
                }
                throw new Error(2);
            }
            case "cure":
                cloth(a[0]);
                within(a[1], 0, 1);
                return cure(a[0])[a[1]];
            case "alone": {
                cloth(a[0]);
                int set = 0;
                for (int d = 0; d < 7; d++) {
                    World u = w.copied();
                    if (u.deed(d) && u.shows(u.cloths.get(a[0])) == 0) {
                        set += 1 << d;
                    }
                }
                return set;
            }
            default:
                return answerOfThought(name, a);
        }
    }

    private int after(int cloth, int n) {
        World u = w.copied();
        for (int i = 0; i < n; i++) {
            u.yard(u.cloths.get(cloth));
        }
        return u.shows(u.cloths.get(cloth));
    }

    /** Fewest SECONDS and the number, every turn really made. */
    private int[] cure(int cloth) {
        int[] best = null;
        for (int number = 7099; number >= 0; number--) {
            if (number % 1000 > 99) {
                continue;
            }
            World u = w.copied();
            u.second = 0;
            for (int d = 0; d < 3; d++) {
                if ((number / 1000 & 1 << d) != 0) {
                    u.deed(d);
                }
            }
            while (u.part[1] != number % 100 / 10) {
                u.deed(u.part[1] < number % 100 / 10 ? 3 : 4);
            }
            while (u.part[2] != number % 10) {
                u.deed(u.part[2] < number % 10 ? 5 : 6);
            }
            if (u.shows(u.cloths.get(cloth)) == 0 && (best == null || u.second <= best[0])) {
                best = new int[] {u.second, number};
            }
        }
        ask(best != null, 2);
        return best;
    }

    private Page page(int i) {
        within(i, 0, 3);
        return pages[i];
    }

    /** The Worlds by which all CLOTHS SHOW as a SHEET tells, by their numbers. */
    private List<World> canBe(Page p) {
        ask(p != null && p.numbers.length == w.cloths.size(), 2);
        List<World> all = new ArrayList<>();
        for (int t = 0; t < 2; t++) {
            for (int n = 0; n < 3; n++) {
                for (int k = 0; k < 10; k++) {
                    for (int s = 0; s < 10; s++) {
                        World u = w.copied();
                        u.part[0] = t;
                        u.part[3] = n;
                        u.part[1] = k;
                        u.part[2] = s;
                        boolean fits = true;
                        for (Fabric f : u.cloths) {
                            fits &= p.numbers[f.n] < 0 || p.numbers[f.n] == u.shows(f);
                        }
                        if (fits) {
                            all.add(u);
                        }
                    }
                }
            }
        }
        return all;
    }

    private int answerOfThought(String name, int[] a) {
        switch (name) {
            case "canBe": {
                Page p = page(a[0]);
                within(a[1], 0, 1);
                List<World> all = canBe(p);
                if (a[1] == 0) {
                    return all.size();
                }
                ask(!all.isEmpty(), 2);
                int[] q = all.get(0).part;
                return 1000 * q[0] + 100 * q[3] + 10 * q[1] + q[2];
            }
            case "tellsMost": {
                List<World> all = canBe(page(a[0]));
                ask(!w.cloths.isEmpty(), 2);
                int best = -1;
                int least = 0;
                for (int i = 0; i < w.cloths.size(); i++) {
                    int[] many = new int[5];
                    for (World u : all) {
                        many[u.shows(u.cloths.get(i))]++;
                    }
                    java.util.Arrays.sort(many);
                    if (best < 0 || many[4] < least) {
                        best = i;
                        least = many[4];
                    }
                }
                return best;
            }
            case "knobWas": {
                cloth(a[0]);
                cloth(a[1]);
                ask(a[0] != a[1], 1);
                boolean seams = false;
                for (int s = 0; s < 25; s++) {
                    seams |= a[2] == s / 5 * 10 + s % 5;
                }
                ask(seams, 1);
                int set = 0;
                for (int k = 0; k < 10; k++) {
                    World u = w.copied();
                    u.part[1] = k;
                    if (u.shows(u.cloths.get(a[0])) * 10 + u.shows(u.cloths.get(a[1])) == a[2]) {
                        set += 1 << k;
                    }
                }
                return set;
            }
            case "row": {
                within(a[0], 1, Math.min(4, w.cloths.size()));
                within(a[1], 1, 20);
                within(a[2], 0, 1);
                return row(a[0], a[1])[a[2]];
            }
            case "odds": {
                cloth(a[0]);
                within(a[1], 0, 1);
                int even = 0;
                for (int s = 0; s < 10; s++) {
                    World u = w.copied();
                    u.part[5] = s;
                    even += u.shows(u.cloths.get(a[0])) == 0 ? 1 : 0;
                }
                int below = 10;
                for (int d = 10; d > 1; d--) {
                    if (even % d == 0 && below % d == 0) {
                        even /= d;
                        below /= d;
                    }
                }
                return a[1] == 0 ? even : below;
            }
            default:
                return answerOfSheets(name, a);
        }
    }

    /** Fewest SPOILT and the first CLOTH, of all numbers of n digits 0 to 5 that are unlike. */
    private int[] row(int n, int y) {
        int end = (int) Math.pow(10, n);
        int[] best = null;
        for (int digits = 0; digits < end; digits++) {
            int[] row = new int[n];
            int rest = digits;
            for (int i = n - 1; i >= 0; i--) {
                row[i] = rest % 10;
                rest /= 10;
            }
            boolean fine = true;
            for (int i = 0; i < n; i++) {
                fine &= row[i] < w.cloths.size();
                for (int j = 0; j < i; j++) {
                    fine &= row[i] != row[j];
                }
            }
            if (!fine) {
                continue;
            }
            World u = w.copied();
            int spoilt = 0;
            for (int c : row) {
                for (int i = 0; i < y; i++) {
                    spoilt += u.yard(u.cloths.get(c)) ? 1 : 0;
                }
            }
            if (best == null || spoilt < best[0]) {
                best = new int[] {spoilt, row[0]};
            }
        }
        return best;
    }

    private int answerOfSheets(String name, int[] a) {
        switch (name) {
            case "sheet": {
                within(a[0], 0, 3);
                ask(a[1] == 0 || a[1] == 8 || a[1] == 16 || a[1] == 32, 1);
                if (a[1] == 0) {
                    pages[a[0]] = null;
                    return 1;
                }
                ask(a[2] >= 0, 3);
                within(a[2], 0, 40);
                pages[a[0]] = new Page();
                pages[a[0]].bits = a[1];
                pages[a[0]].numbers = new int[a[2]];
                return 1;
            }
            case "put": {
                Page p = page(a[0]);
                ask(p != null, 2);
                within(a[1], 0, p.numbers.length - 1);
                int away = 32 - p.bits;
                p.numbers[a[1]] = a[2] << away >> away;
                return 1;
            }
            case "move": {
                within(a[0], 0, 3);
                within(a[2], 0, 3);
                Page p = pages[a[0]];
                Page q = pages[a[2]];
                ask(p != null && q != null, 2);
                ask(p.bits == q.bits, 5);
                ask(a[4] >= 0 && a[1] >= 0 && a[3] >= 0, 1);
                ask((long) a[1] + a[4] <= p.numbers.length && (long) a[3] + a[4] <= q.numbers.length, 1);
                int[] were = p.numbers.clone();
                for (int i = 0; i < a[4]; i++) {
                    q.numbers[a[3] + i] = were[a[1] + i];
                }
                return a[4];
            }
            case "thicks": {
                Page p = page(a[0]);
                ask(p != null, 2);
                int i = 0;
                while (i < p.numbers.length && i < w.cloths.size() && p.numbers[i] >= 0 && p.numbers[i] <= 9) {
                    w.cloths.get(i).thick = p.numbers[i];
                    i++;
                }
                return i;
            }
            case "judge": {
                Page p = page(a[0]);
                ask(p != null, 2);
                for (int i = 0; i < p.numbers.length || i < w.cloths.size(); i++) {
                    if (i >= p.numbers.length || i >= w.cloths.size() || p.numbers[i] != w.shows(w.cloths.get(i))) {
                        return i;
                    }
                }
                return -1;
            }
            default:
                return answerOfRest(name, a);
        }
    }

    private int answerOfRest(String name, int[] a) {
        switch (name) {
            case "seed": {
                int was = w.z;
                w.z = a[0];
                return was;
            }
            case "voice": {
                Fabric f = cloth(a[0]);
                within(a[1], 0, 3);
                f.trace = new ArrayList<>();
                trace = f.trace;
                switch (a[1]) {
                    case 0: return f.threads(a[2]);
                    case 1: return f.sews(a[2]);
                    case 2: return f.shows(a[2]);
                    default: return f.folds(a[2]);
                }
            }
            case "trace":
                ask(a[0] >= 0 && a[0] < trace.size() && a[0] < 40, 2);
                return trace.get(a[0]);
            case "image":
                kept = w.copied();
                return ++images;
            case "restore":
                ask(kept != null, 2);
                w = kept.copied();
                return w.second;
            case "tell":
                ask(w.waiting.size() < 20, 4);
                w.waiting.add(a[0]);
                return w.waiting.size();
            case "check": {
                List<Integer> all = w.waiting;
                w.waiting = new ArrayList<>();
                for (int i = 0; i < all.size(); i++) {
                    if (w.cloths.isEmpty() || after(0, i + 1) != all.get(i)) {
                        return 1 + i;
                    }
                }
                return 0;
            }
            case "count":
                within(a[0], 0, 7);
                return new int[] {w.cloths.size(), w.second, w.cloths.stream().mapToInt(f -> f.yards).sum(),
                    w.cloths.stream().mapToInt(f -> f.spoilt).sum(), w.tape.length(), w.waiting.size(),
                    Math.min(40, trace.size()), w.z}[a[0]];
            case "told":
                within(a[0], 1, 5);
                return told[a[0]];
            default:
                throw new IllegalStateException(name);
        }
    }
}
