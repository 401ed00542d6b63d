import java.util.Arrays;

/**
 * A sewing machine whose seam may loop underneath, the cloths sewn on it, and what can be thought
 * about both. Every call answers an int; answers below LOW are the document's ERRORS.
 */
public final class LoopsBelow {
    private static final int LOW = -1000000000;
    private static final int BEYOND = 1;
    private static final int NONE = 2;
    private static final int STATE = 3;
    private static final int FULL = 4;
    private static final int UNLIKE_KIND = 5;

    private static final int MOST_SECOND = 99999;
    private static final int MOST_YARDS = 9999;
    private static final int MOST_LINT = 99;
    private static final int MOST_CLOTHS = 6;
    private static final int MOST_TAPE = 50;
    private static final int MOST_OPEN = 5;
    private static final int MOST_WAITING = 20;
    private static final int MOST_TRACE = 40;
    private static final int MOST_DEPTH = 40;
    private static final int MOST_NUMBERS = 40;
    private static final int MOST_AHEAD = 200;
    private static final int SHEETS = 4;

    private static final int GOOD = 0;
    private static final int BENT = 1;
    private static final int TURNED = 2;

    private static final int CLOTH = 0;
    private static final int SILK = 1;
    private static final int DENIM = 2;
    private static final int KNIT = 3;
    private static final int VELVET = 4;
    private static final int CURTAIN = 5;
    private static final int SCRAP = 6;
    private static final int KINDS = 7;
    private static final int NO_KIND = -1;

    private static final int EVEN = 0;
    private static final int LOOPED = 1;
    private static final int PUCKERED = 2;
    private static final int SKIPPED = 3;
    private static final int NESTED = 4;
    private static final int SEAMS = 5;

    private static final int DEEDS = 7;
    private static final int[] DEED_SECONDS = {11, 20, 9, 2, 2, 5, 5};
    private static final int KNOB_SECONDS = 2;
    private static final int SCREW_SECONDS = 5;
    private static final int EVENING_SECONDS = 30;

    private static final int WANTED = 0;
    private static final int LIMIT = 1;
    private static final String WANTED_NAMES = "tmk";
    private static final String LIMIT_NAMES = "tml";
    private static final int COMPARING = 2;
    private static final int LEVELS = 5;

    private static final int THREADS = 0;
    private static final int SEWS = 1;
    private static final int SHOWS = 2;
    private static final int FOLDS = 3;
    private static final int ACTS = 4;
    /** The BODIES of each KIND in a row of four acts; 0 where a KIND has none of its own. */
    private static final int[] BODIES = {
        10, 11, 12, 13,
        20, 0, 0, 0,
        0, 30, 0, 0,
        0, 0, 40, 0,
        0, 0, 0, 50,
        0, 60, 0, 0,
        0, 0, 70, 71
    };

    /** All THREADINGS, NEEDLES, KNOBS and SCREWS together, and those of one THREADING. */
    private static final int GUESSES = 600;
    private static final int GUESSES_OF_THREADING = 300;

    private final State now;
    private final State kept;
    private int images;
    private final Machine thought;
    private final Gauge[] gauges;
    private final int[] tallies;
    private final RowSearch rows;
    private final TextReader reader;
    private final Choir choir;
    private final Sheet[] sheets;
    private final int[] errors;

    public LoopsBelow() {
        now = new State();
        kept = new State();
        images = 0;
        thought = new Machine();
        gauges = new Gauge[MOST_CLOTHS];
        for (int i = 0; i < MOST_CLOTHS; i++) {
            gauges[i] = new Gauge(now, now.cloths[i]);
        }
        tallies = new int[MOST_CLOTHS * SEAMS];
        rows = new RowSearch(gauges, thought);
        reader = new TextReader();
        choir = new Choir();
        sheets = new Sheet[SHEETS];
        for (int i = 0; i < SHEETS; i++) {
            sheets[i] = new Sheet();
        }
        errors = new int[UNLIKE_KIND + 1];
    }

    // ---- the machine, cloths

    public int set(int what, int v) {
        if (v < 0 || v > Machine.mostOf(what)) {
            return error(BEYOND);
        }
        int was = now.machine.part(what);
        now.machine.turnPart(what, v);
        return was;
    }

    public int machine(int what) {
        if (what < 0 || what > 5) {
            return error(BEYOND);
        }
        return now.machine.part(what);
    }

    public int cloth(int km, int thick) {
        if (!isKindAndM(km) || !isDigit(thick)) {
            return error(BEYOND);
        }
        if (now.clothCount >= MOST_CLOTHS) {
            return error(FULL);
        }
        int number = now.clothCount;
        now.cloths[number].begin(km, thick);
        now.clothCount = number + 1;
        return number;
    }

    public int ofCloth(int cloth, int what) {
        if (!hasCloth(cloth) || what < 0 || what > 8) {
            return error(BEYOND);
        }
        Cloth it = now.cloths[cloth];
        switch (what) {
            case 0: return it.kind;
            case 1: return it.m;
            case 2: return it.thick;
            case 3: return it.yards;
            case 4: return it.spoilt;
            case 5: return gaugeOf(cloth).wants;
            case 6: return gaugeOf(cloth).bears;
            case 7: return gaugeOf(cloth).off(now.machine);
            default: return gaugeOf(cloth).shows(now.machine);
        }
    }

    public int change(int cloth, int what, int v) {
        if (!hasCloth(cloth) || what < 0 || what > 2 || v < 0 || v > (what == 0 ? 9 : MOST_YARDS)) {
            return error(BEYOND);
        }
        Cloth it = now.cloths[cloth];
        int was;
        if (what == 0) {
            was = it.thick;
            it.thick = v;
        } else if (what == 1) {
            was = it.yards;
            it.yards = v;
        } else {
            was = it.spoilt;
            it.spoilt = v;
        }
        return was;
    }

    public int become(int cloth, int km) {
        if (!hasCloth(cloth) || !isKindAndM(km)) {
            return error(BEYOND);
        }
        int was = now.cloths[cloth].kind;
        now.cloths[cloth].makeOf(km);
        return was;
    }

    public int as(int cloth, int kind) {
        if (!hasCloth(cloth) || kind < 0 || kind >= KINDS) {
            return error(BEYOND);
        }
        if (!now.cloths[cloth].isOf(kind)) {
            return error(UNLIKE_KIND);
        }
        return now.cloths[cloth].m;
    }

    // ---- texts

    public int feed(long word, int n) {
        if (n < 1 || n > 8) {
            return error(BEYOND);
        }
        if (now.tapeLength + n > MOST_TAPE) {
            return error(FULL);
        }
        for (int i = 0; i < n; i++) {
            now.tape[now.tapeLength + i] = (byte) (word >>> (8 * i));
        }
        now.tapeLength += n;
        return now.tapeLength;
    }

    public int text(int use) {
        if (!isUse(use)) {
            return error(BEYOND);
        }
        boolean right = reader.reads(now.tape, now.tapeLength, use == WANTED ? WANTED_NAMES : LIMIT_NAMES);
        now.tapeLength = 0;
        if (!right) {
            return -10 - reader.at;
        }
        now.laws[use].take(reader.steps, reader.length);
        return 1;
    }

    public int law(int use, int a, int b, int c) {
        if (!isUse(use)) {
            return error(BEYOND);
        }
        return now.gives(use, a, b, c);
    }

    // ---- yards, deeds, evenings

    public int sew(int cloth, int n) {
        if (!hasCloth(cloth) || n < 1 || n > MOST_AHEAD) {
            return error(BEYOND);
        }
        if (now.second + n * now.machine.yardSeconds() > MOST_SECOND) {
            return error(STATE);
        }
        Gauge gauge = gaugeOf(cloth);
        int spoilt = 0;
        for (int i = 0; i < n; i++) {
            spoilt += now.sewYard(gauge);
        }
        return spoilt;
    }

    public int deed(int deed) {
        if (deed < 0 || deed >= DEEDS) {
            return error(BEYOND);
        }
        if (!now.machine.hasRoomFor(deed) || now.second + DEED_SECONDS[deed] > MOST_SECOND) {
            return error(STATE);
        }
        now.follow(deed);
        return now.second;
    }

    public int loose(int n) {
        if (n < 1 || n > 40) {
            return error(BEYOND);
        }
        if (now.second + EVENING_SECONDS * n > MOST_SECOND) {
            return error(STATE);
        }
        refreshGauges();
        int spoilt = 0;
        for (int i = 0; i < n; i++) {
            spoilt += evening();
        }
        return spoilt;
    }

    // ---- what would be

    public int after(int cloth, int n) {
        if (!hasCloth(cloth) || n < 0 || n > MOST_AHEAD) {
            return error(BEYOND);
        }
        thought.copyFrom(now.machine);
        thought.gather(n * now.cloths[cloth].lintOfYard());
        return gaugeOf(cloth).shows(thought);
    }

    public int until(int cloth) {
        if (!hasCloth(cloth)) {
            return error(BEYOND);
        }
        Gauge gauge = gaugeOf(cloth);
        int lint = now.cloths[cloth].lintOfYard();
        thought.copyFrom(now.machine);
        int first = gauge.shows(thought);
        for (int n = 1; n <= MOST_AHEAD; n++) {
            thought.gather(lint);
            if (gauge.shows(thought) != first) {
                return n;
            }
        }
        return error(NONE);
    }

    public int cure(int cloth, int what) {
        if (!hasCloth(cloth) || !isPart(what)) {
            return error(BEYOND);
        }
        int best = cheapestCure(gaugeOf(cloth));
        if (best < 0) {
            return error(NONE);
        }
        return what == 1 ? best : cureSeconds(best / 1000, best / 10 % 10, best % 10);
    }

    public int alone(int cloth) {
        if (!hasCloth(cloth)) {
            return error(BEYOND);
        }
        Gauge gauge = gaugeOf(cloth);
        int set = 0;
        for (int deed = 0; deed < DEEDS; deed++) {
            thought.copyFrom(now.machine);
            if (thought.hasRoomFor(deed)) {
                thought.follow(deed);
                if (gauge.shows(thought) == EVEN) {
                    set |= 1 << deed;
                }
            }
        }
        return set;
    }

    public int canBe(int sheet, int what) {
        if (!isSheet(sheet) || !isPart(what)) {
            return error(BEYOND);
        }
        if (!tellsOfAllCloths(sheets[sheet])) {
            return error(NONE);
        }
        prepareGuesses();
        int many = 0;
        for (int guess = 0; guess < GUESSES; guess++) {
            thought.guess(guess);
            if (showsAsTold(sheets[sheet])) {
                if (what == 1) {
                    return 1000 * (guess / GUESSES_OF_THREADING) + guess % GUESSES_OF_THREADING;
                }
                many++;
            }
        }
        return what == 1 ? error(NONE) : many;
    }

    public int tellsMost(int sheet) {
        if (!isSheet(sheet)) {
            return error(BEYOND);
        }
        if (!tellsOfAllCloths(sheets[sheet]) || now.clothCount == 0) {
            return error(NONE);
        }
        prepareGuesses();
        Arrays.fill(tallies, 0);
        for (int guess = 0; guess < GUESSES; guess++) {
            thought.guess(guess);
            if (showsAsTold(sheets[sheet])) {
                tallyAll();
            }
        }
        int best = 0;
        for (int i = 1; i < now.clothCount; i++) {
            if (greatestTally(i) < greatestTally(best)) {
                best = i;
            }
        }
        return best;
    }

    public int knobWas(int one, int other, int shown) {
        if (!hasCloth(one) || !hasCloth(other) || one == other) {
            return error(BEYOND);
        }
        if (shown < 0 || shown / 10 >= SEAMS || shown % 10 >= SEAMS) {
            return error(BEYOND);
        }
        Gauge first = gaugeOf(one);
        Gauge second = gaugeOf(other);
        thought.copyFrom(now.machine);
        int set = 0;
        for (int knob = 0; knob <= 9; knob++) {
            thought.knob = knob;
            if (first.shows(thought) == shown / 10 && second.shows(thought) == shown % 10) {
                set |= 1 << knob;
            }
        }
        return set;
    }

    public int row(int n, int y, int what) {
        if (n < 1 || n > 4 || n > now.clothCount || y < 1 || y > 20 || !isPart(what)) {
            return error(BEYOND);
        }
        refreshGauges();
        thought.copyFrom(now.machine);
        rows.begin(now.clothCount, n, y);
        rows.extend(0, 0, 0, 0);
        return what == 0 ? rows.fewest : rows.firstOfFewest;
    }

    public int odds(int cloth, int part) {
        if (!hasCloth(cloth) || !isPart(part)) {
            return error(BEYOND);
        }
        Gauge gauge = gaugeOf(cloth);
        thought.copyFrom(now.machine);
        int even = 0;
        for (int speed = 0; speed <= 9; speed++) {
            thought.speed = speed;
            if (gauge.shows(thought) == EVEN) {
                even++;
            }
        }
        return part == 0 ? even / commonOfTen(even) : 10 / commonOfTen(even);
    }

    // ---- draws, voices, sheets, images, what is told

    public int seed(int v) {
        int was = now.z;
        now.z = v;
        return was;
    }

    public int voice(int cloth, int act, int x) {
        if (!hasCloth(cloth) || act < 0 || act >= ACTS) {
            return error(BEYOND);
        }
        return choir.sing(now.cloths[cloth], cloth, act, x);
    }

    public int trace(int i) {
        if (i < 0 || i >= choir.length) {
            return error(NONE);
        }
        return choir.begun[i];
    }

    public int sheet(int sheet, int bits, int n) {
        if (!isSheet(sheet) || !isWidth(bits)) {
            return error(BEYOND);
        }
        if (bits == 0) {
            sheets[sheet].lay(0, 0);
            return 1;
        }
        if (n < 0) {
            return error(STATE);
        }
        if (n > MOST_NUMBERS) {
            return error(BEYOND);
        }
        sheets[sheet].lay(bits, n);
        return 1;
    }

    public int put(int sheet, int i, int v) {
        if (!isSheet(sheet)) {
            return error(BEYOND);
        }
        Sheet it = sheets[sheet];
        if (it.isMissing()) {
            return error(NONE);
        }
        if (i < 0 || i >= it.length) {
            return error(BEYOND);
        }
        it.write(i, v);
        return 1;
    }

    public int move(int sheet, int i, int other, int j, int n) {
        if (!isSheet(sheet) || !isSheet(other)) {
            return error(BEYOND);
        }
        Sheet from = sheets[sheet];
        Sheet to = sheets[other];
        if (from.isMissing() || to.isMissing()) {
            return error(NONE);
        }
        if (from.bits != to.bits) {
            return error(UNLIKE_KIND);
        }
        if (!from.hasRun(i, n) || !to.hasRun(j, n)) {
            return error(BEYOND);
        }
        System.arraycopy(from.numbers, i, to.numbers, j, n);
        return n;
    }

    public int thicks(int sheet) {
        if (!isSheet(sheet)) {
            return error(BEYOND);
        }
        Sheet it = sheets[sheet];
        if (it.isMissing()) {
            return error(NONE);
        }
        int end = Math.min(it.length, now.clothCount);
        for (int i = 0; i < end; i++) {
            if (!isDigit(it.numbers[i])) {
                return i;
            }
            now.cloths[i].thick = it.numbers[i];
        }
        return end;
    }

    public int judge(int sheet) {
        if (!isSheet(sheet)) {
            return error(BEYOND);
        }
        Sheet it = sheets[sheet];
        if (it.isMissing()) {
            return error(NONE);
        }
        int end = Math.min(it.length, now.clothCount);
        for (int i = 0; i < end; i++) {
            if (gaugeOf(i).shows(now.machine) != it.numbers[i]) {
                return i;
            }
        }
        return it.length == now.clothCount ? -1 : end;
    }

    public int image() {
        kept.copyFrom(now);
        images++;
        return images;
    }

    public int restore() {
        if (images == 0) {
            return error(NONE);
        }
        now.copyFrom(kept);
        return now.second;
    }

    public int tell(int v) {
        if (now.waitCount >= MOST_WAITING) {
            return error(FULL);
        }
        now.waiting[now.waitCount] = v;
        now.waitCount++;
        return now.waitCount;
    }

    public int check() {
        int end = now.waitCount;
        now.waitCount = 0;
        if (now.clothCount == 0) {
            return end == 0 ? 0 : 1;
        }
        Gauge gauge = gaugeOf(0);
        int lint = now.cloths[0].lintOfYard();
        thought.copyFrom(now.machine);
        for (int i = 0; i < end; i++) {
            thought.gather(lint);
            if (gauge.shows(thought) != now.waiting[i]) {
                return 1 + i;
            }
        }
        return 0;
    }

    public int count(int what) {
        switch (what) {
            case 0: return now.clothCount;
            case 1: return now.second;
            case 2: return now.allYards();
            case 3: return now.allSpoilt();
            case 4: return now.tapeLength;
            case 5: return now.waitCount;
            case 6: return choir.length;
            case 7: return now.z;
            default: return error(BEYOND);
        }
    }

    public int told(int k) {
        if (k < BEYOND || k > UNLIKE_KIND) {
            return error(BEYOND);
        }
        return errors[k];
    }

    // ---- what the calls share

    private int error(int which) {
        if (which >= BEYOND && which <= UNLIKE_KIND) {
            errors[which]++;
        }
        return LOW - which;
    }

    private boolean hasCloth(int number) {
        return number >= 0 && number < now.clothCount && number < MOST_CLOTHS;
    }

    private static boolean isKindAndM(int km) {
        return km >= 0 && km < 10 * KINDS;
    }

    private static boolean isDigit(int v) {
        return v >= 0 && v <= 9;
    }

    private static boolean isUse(int use) {
        return use == WANTED || use == LIMIT;
    }

    private static boolean isPart(int part) {
        return part == 0 || part == 1;
    }

    private static boolean isSheet(int sheet) {
        return sheet >= 0 && sheet < SHEETS;
    }

    private static boolean isWidth(int bits) {
        return bits == 0 || bits == 8 || bits == 16 || bits == 32;
    }

    private Gauge gaugeOf(int number) {
        gauges[number].refresh();
        return gauges[number];
    }

    private void refreshGauges() {
        for (int i = 0; i < now.clothCount; i++) {
            gauges[i].refresh();
        }
    }

    /** One EVENING: both draws are made even where nothing comes of them. */
    private int evening() {
        int deed = now.draw() % DEEDS;
        int pick = now.draw();
        if (now.machine.hasRoomFor(deed)) {
            now.follow(deed);
        }
        if (now.clothCount == 0) {
            return 0;
        }
        return now.sewYard(gauges[pick % now.clothCount]);
    }

    /** The least number among the cheapest CURES, or -1: the loops go by that number, upward. */
    private int cheapestCure(Gauge gauge) {
        int best = -1;
        int fewest = 0;
        for (int set = 0; set < 8; set++) {
            thinkOfDeeds(set);
            for (int turns = 0; turns < 100; turns++) {
                thought.knob = turns / 10;
                thought.screw = turns % 10;
                int seconds = cureSeconds(set, thought.knob, thought.screw);
                if ((best < 0 || seconds < fewest) && gauge.shows(thought) == EVEN) {
                    best = 1000 * set + turns;
                    fewest = seconds;
                }
            }
        }
        return best;
    }

    private void thinkOfDeeds(int set) {
        thought.copyFrom(now.machine);
        for (int deed = 0; deed < 3; deed++) {
            if ((set >> deed & 1) == 1) {
                thought.follow(deed);
            }
        }
    }

    private int cureSeconds(int set, int knob, int screw) {
        int seconds = KNOB_SECONDS * Math.abs(knob - now.machine.knob)
            + SCREW_SECONDS * Math.abs(screw - now.machine.screw);
        for (int deed = 0; deed < 3; deed++) {
            if ((set >> deed & 1) == 1) {
                seconds += DEED_SECONDS[deed];
            }
        }
        return seconds;
    }

    private boolean tellsOfAllCloths(Sheet sheet) {
        return !sheet.isMissing() && sheet.length == now.clothCount;
    }

    private void prepareGuesses() {
        refreshGauges();
        thought.copyFrom(now.machine);
    }

    private boolean showsAsTold(Sheet sheet) {
        for (int i = 0; i < now.clothCount; i++) {
            if (sheet.numbers[i] >= 0 && gauges[i].shows(thought) != sheet.numbers[i]) {
                return false;
            }
        }
        return true;
    }

    private void tallyAll() {
        for (int i = 0; i < now.clothCount; i++) {
            tallies[i * SEAMS + gauges[i].shows(thought)]++;
        }
    }

    private int greatestTally(int number) {
        int greatest = 0;
        for (int seam = 0; seam < SEAMS; seam++) {
            greatest = Math.max(greatest, tallies[number * SEAMS + seam]);
        }
        return greatest;
    }

    /** The greatest number by which both 10 and a number of 0 to 10 can be divided. */
    private static int commonOfTen(int many) {
        if (many % 10 == 0) {
            return 10;
        }
        if (many % 5 == 0) {
            return 5;
        }
        return many % 2 == 0 ? 2 : 1;
    }

    private static int held(int v, int least, int most) {
        return Math.max(least, Math.min(most, v));
    }

    /** The KIND right above one. */
    private static int above(int kind) {
        switch (kind) {
            case SILK:
            case DENIM:
            case KNIT:
                return CLOTH;
            case VELVET:
                return SILK;
            case CURTAIN:
                return DENIM;
            case SCRAP:
                return KNIT;
            default:
                return NO_KIND;
        }
    }

    /** The machine's parts; one is the true machine, another only thought of. */
    private static final class Machine {
        int threading = 0;
        int knob = 4;
        int screw = 0;
        int needle = GOOD;
        int lint = 0;
        int speed = 3;

        /** The most that a part can be; -1 where there is no such part. */
        static int mostOf(int what) {
            switch (what) {
                case 0: return 1;
                case 1: return 9;
                case 2: return 9;
                case 3: return TURNED;
                case 4: return MOST_LINT;
                case 5: return 9;
                default: return -1;
            }
        }

        int part(int what) {
            switch (what) {
                case 0: return threading;
                case 1: return knob;
                case 2: return screw;
                case 3: return needle;
                case 4: return lint;
                default: return speed;
            }
        }

        void turnPart(int what, int v) {
            switch (what) {
                case 0: threading = v; break;
                case 1: knob = v; break;
                case 2: screw = v; break;
                case 3: needle = v; break;
                case 4: lint = v; break;
                default: speed = v; break;
            }
        }

        void copyFrom(Machine other) {
            threading = other.threading;
            knob = other.knob;
            screw = other.screw;
            needle = other.needle;
            lint = other.lint;
            speed = other.speed;
        }

        /** Becomes one of all that it CAN BE; LINT and SPEED stay. */
        void guess(int guess) {
            threading = guess / GUESSES_OF_THREADING;
            needle = guess / 100 % 3;
            knob = guess / 10 % 10;
            screw = guess % 10;
        }

        int yardSeconds() {
            return 10 - speed;
        }

        void gather(int more) {
            lint = Math.min(MOST_LINT, lint + more);
        }

        boolean hasRoomFor(int deed) {
            switch (deed) {
                case 3: return knob < 9;
                case 4: return knob > 0;
                case 5: return screw < 9;
                case 6: return screw > 0;
                default: return true;
            }
        }

        void follow(int deed) {
            switch (deed) {
                case 0: threading = 0; break;
                case 1: needle = GOOD; break;
                case 2: lint = 0; break;
                case 3: knob++; break;
                case 4: knob--; break;
                case 5: screw++; break;
                default: screw--; break;
            }
        }
    }

    private static final class Cloth {
        int kind;
        int m;
        int thick;
        int yards;
        int spoilt;

        void begin(int km, int thickness) {
            makeOf(km);
            thick = thickness;
            yards = 0;
            spoilt = 0;
        }

        void makeOf(int km) {
            kind = km / 10;
            m = km % 10;
        }

        void copyFrom(Cloth other) {
            kind = other.kind;
            m = other.m;
            thick = other.thick;
            yards = other.yards;
            spoilt = other.spoilt;
        }

        boolean isOf(int other) {
            int it = kind;
            for (int steps = 0; steps < KINDS && it != NO_KIND; steps++) {
                if (it == other) {
                    return true;
                }
                it = above(it);
            }
            return false;
        }

        /** What the KINDS from its own up to CLOTH add to what the TEXT gives. */
        int wantsMore() {
            int more = 0;
            int it = kind;
            for (int steps = 0; steps < KINDS && it != NO_KIND; steps++) {
                more += wantsMoreAs(it);
                it = above(it);
            }
            return more;
        }

        int wantsMoreAs(int which) {
            switch (which) {
                case SILK: return -2;
                case DENIM: return thick / 2;
                case KNIT: return m % 3;
                case VELVET: return 1;
                case CURTAIN: return -(m % 2);
                default: return 0;
            }
        }

        int bears() {
            switch (kind) {
                case SILK: return 0;
                case VELVET: return 0;
                case KNIT: return 2;
                case CURTAIN: return 2;
                case SCRAP: return 2 + m / 4;
                default: return 1;
            }
        }

        int lintOfYard() {
            switch (kind) {
                case SCRAP: return 0;
                case DENIM: return 2;
                case CURTAIN: return 2;
                default: return 1;
            }
        }
    }

    /**
     * A TEXT as steps in the order in which they are worked out: a number stands for itself, -1 to -3
     * for the NAMES, and an operator is its byte below 0. No steps: no TEXT.
     */
    private static final class Law {
        final int[] steps = new int[MOST_TAPE];
        final int[] stack = new int[MOST_TAPE];
        int length;

        void take(int[] others, int many) {
            length = held(many, 0, Math.min(others.length, MOST_TAPE));
            System.arraycopy(others, 0, steps, 0, length);
        }

        int value(int a, int b, int c) {
            int top = 0;
            for (int i = 0; i < length; i++) {
                int step = steps[i];
                if (step == -'!' && top > 0) {
                    stack[top - 1] = stack[top - 1] == 0 ? 1 : 0;
                } else if (step < -3 && top > 1) {
                    top--;
                    stack[top - 1] = joined(-step, stack[top - 1], stack[top]);
                } else if (step >= -3 && top < MOST_TAPE) {
                    stack[top] = step >= 0 ? step : step == -1 ? a : step == -2 ? b : c;
                    top++;
                }
            }
            return stack[0];
        }

        static int joined(int operator, int left, int right) {
            switch (operator) {
                case '|': return left != 0 || right != 0 ? 1 : 0;
                case '&': return left != 0 && right != 0 ? 1 : 0;
                case '<': return left < right ? 1 : 0;
                case '=': return left == right ? 1 : 0;
                case '>': return left > right ? 1 : 0;
                case '+': return left + right;
                case '-': return left - right;
                case '*': return left * right;
                case '/': return right == 0 ? 0 : left / right;
                default: return right == 0 ? 0 : left % right;
            }
        }
    }

    /**
     * Reads THE TAPE as a TEXT. It never looks past the first byte that can't stand where it is, so
     * that its place is the FAULT when it stops.
     */
    private static final class TextReader {
        final int[] steps = new int[MOST_TAPE];
        final int[] bytes = new int[MOST_TAPE];
        int length;
        int at;
        int end;
        String names = WANTED_NAMES;

        boolean reads(byte[] tape, int many, String itsNames) {
            end = held(many, 0, Math.min(tape.length, MOST_TAPE));
            for (int i = 0; i < end; i++) {
                bytes[i] = tape[i] & 255;
            }
            names = itsNames;
            at = 0;
            length = 0;
            return readLevel(0, 0) && at == end;
        }

        /** The document's T, A, B, S, P are levels 0 to 4, each made of the next one. */
        private boolean readLevel(int level, int open) {
            if (level >= LEVELS) {
                return readSingle(open);
            }
            if (!readLevel(level + 1, open)) {
                return false;
            }
            boolean more = operatorIsOf(level);
            for (int i = 0; i < MOST_TAPE && more; i++) {
                int operator = here();
                at++;
                if (!readLevel(level + 1, open)) {
                    return false;
                }
                add(-operator);
                more = level != COMPARING && operatorIsOf(level);
            }
            return true;
        }

        /** The document's Q. */
        private boolean readSingle(int open) {
            int first = here();
            if (first >= '0' && first <= '9') {
                readNumber();
                return true;
            }
            int name = first < 0 ? -1 : names.indexOf((char) first);
            if (name >= 0) {
                add(-1 - name);
                at++;
                return true;
            }
            if (open >= MOST_OPEN || first != '!' && first != '(') {
                return false;
            }
            at++;
            return first == '!' ? readDenied(open + 1) : readEnclosed(open + 1);
        }

        private boolean readDenied(int open) {
            if (!readSingle(open)) {
                return false;
            }
            add(-'!');
            return true;
        }

        private boolean readEnclosed(int open) {
            if (!readLevel(0, open) || here() != ')') {
                return false;
            }
            at++;
            return true;
        }

        private void readNumber() {
            int number = 0;
            for (int digits = 0; digits < 4 && here() >= '0' && here() <= '9'; digits++) {
                number = number * 10 + here() - '0';
                at++;
            }
            add(number);
        }

        private boolean operatorIsOf(int level) {
            switch (here()) {
                case '|': return level == 0;
                case '&': return level == 1;
                case '<': return level == COMPARING;
                case '=': return level == COMPARING;
                case '>': return level == COMPARING;
                case '+': return level == 3;
                case '-': return level == 3;
                case '*': return level == 4;
                case '/': return level == 4;
                case '%': return level == 4;
                default: return false;
            }
        }

        private int here() {
            return at >= 0 && at < end ? bytes[at] : -1;
        }

        private void add(int step) {
            if (length < MOST_TAPE) {
                steps[length] = step;
                length++;
            }
        }
    }

    /** All that an IMAGE keeps. */
    private static final class State {
        final Machine machine = new Machine();
        final Cloth[] cloths = new Cloth[MOST_CLOTHS];
        final Law[] laws = new Law[2];
        final byte[] tape = new byte[MOST_TAPE];
        final int[] waiting = new int[MOST_WAITING];
        int clothCount = 0;
        int tapeLength = 0;
        int waitCount = 0;
        int second = 0;
        int z = 1;

        State() {
            for (int i = 0; i < MOST_CLOTHS; i++) {
                cloths[i] = new Cloth();
            }
            laws[WANTED] = new Law();
            laws[LIMIT] = new Law();
        }

        void copyFrom(State other) {
            machine.copyFrom(other.machine);
            for (int i = 0; i < MOST_CLOTHS; i++) {
                cloths[i].copyFrom(other.cloths[i]);
            }
            laws[WANTED].take(other.laws[WANTED].steps, other.laws[WANTED].length);
            laws[LIMIT].take(other.laws[LIMIT].steps, other.laws[LIMIT].length);
            System.arraycopy(other.tape, 0, tape, 0, MOST_TAPE);
            System.arraycopy(other.waiting, 0, waiting, 0, MOST_WAITING);
            clothCount = other.clothCount;
            tapeLength = other.tapeLength;
            waitCount = other.waitCount;
            second = other.second;
            z = other.z;
        }

        int gives(int use, int a, int b, int c) {
            if (use == WANTED) {
                Law wanted = laws[WANTED];
                return held(wanted.length == 0 ? 2 + a / 2 : wanted.value(a, b, c), -9, 19);
            }
            Law limit = laws[LIMIT];
            return held(limit.length == 0 ? 4 : limit.value(a, b, c), 0, 9);
        }

        void follow(int deed) {
            machine.follow(deed);
            second += DEED_SECONDS[deed];
        }

        /** One YARD: 1 if it is SPOILT, also where the cloth's SPOILT is held. */
        int sewYard(Gauge gauge) {
            Cloth cloth = gauge.cloth;
            int spoilt = gauge.shows(machine) == EVEN ? 0 : 1;
            cloth.spoilt = Math.min(MOST_YARDS, cloth.spoilt + spoilt);
            cloth.yards = Math.min(MOST_YARDS, cloth.yards + 1);
            machine.gather(cloth.lintOfYard());
            second += machine.yardSeconds();
            return spoilt;
        }

        int draw() {
            z = z * 1103515245 + 12345;
            return z >>> 8;
        }

        int allYards() {
            int sum = 0;
            for (int i = 0; i < clothCount; i++) {
                sum += cloths[i].yards;
            }
            return sum;
        }

        int allSpoilt() {
            int sum = 0;
            for (int i = 0; i < clothCount; i++) {
                sum += cloths[i].spoilt;
            }
            return sum;
        }
    }

    /**
     * What a SEAM of one cloth depends on beside the machine. It is worked out once for a call, which
     * may then ask it about many machines without reading the TEXTS again.
     */
    private static final class Gauge {
        private static final int UNKNOWN = -1;
        final State state;
        final Cloth cloth;
        final int[] limits = new int[MOST_LINT + 1];
        int wants;
        int bears;

        Gauge(State itsState, Cloth itsCloth) {
            state = itsState;
            cloth = itsCloth;
        }

        void refresh() {
            wants = state.gives(WANTED, cloth.thick, cloth.m, cloth.kind) + cloth.wantsMore();
            bears = cloth.bears();
            Arrays.fill(limits, UNKNOWN);
        }

        int off(Machine machine) {
            return machine.knob - machine.screw - machine.lint / 20 - wants;
        }

        int shows(Machine machine) {
            if (machine.threading != 0) {
                return NESTED;
            }
            if (machine.needle == TURNED || machine.needle == BENT && machine.speed > limitAt(machine.lint)) {
                return SKIPPED;
            }
            int off = off(machine);
            if (off < -bears) {
                return LOOPED;
            }
            return off > bears ? PUCKERED : EVEN;
        }

        private int limitAt(int lint) {
            int place = held(lint, 0, MOST_LINT);
            if (limits[place] == UNKNOWN) {
                limits[place] = state.gives(LIMIT, cloth.thick, cloth.m, place);
            }
            return limits[place];
        }
    }

    /** Tries rows of CLOTHS by their numbers, upward, so that the first of the best ones stays. */
    private static final class RowSearch {
        private static final int NOT_YET = 1000000;
        final Gauge[] gauges;
        final Machine machine;
        int cloths;
        int wanted;
        int yards;
        int fewest;
        int firstOfFewest;

        RowSearch(Gauge[] itsGauges, Machine itsMachine) {
            gauges = itsGauges;
            machine = itsMachine;
        }

        void begin(int clothCount, int n, int y) {
            cloths = held(clothCount, 0, gauges.length);
            wanted = n;
            yards = y;
            fewest = NOT_YET;
            firstOfFewest = 0;
        }

        /** A row of so many CLOTHS (a set) stands; LINT is as it left it. */
        private void extend(int length, int used, int spoilt, int first) {
            if (spoilt >= fewest) {
                return;
            }
            if (length >= wanted) {
                fewest = spoilt;
                firstOfFewest = first;
                return;
            }
            int lint = machine.lint;
            for (int next = 0; next < cloths; next++) {
                if ((used >> next & 1) == 0) {
                    machine.lint = lint;
                    int more = sewOn(gauges[next]);
                    extend(length + 1, used | 1 << next, spoilt + more, length == 0 ? next : first);
                }
            }
        }

        private int sewOn(Gauge gauge) {
            int spoilt = 0;
            for (int i = 0; i < yards; i++) {
                if (gauge.shows(machine) != EVEN) {
                    spoilt++;
                }
                machine.gather(gauge.cloth.lintOfYard());
            }
            return spoilt;
        }
    }

    /** The VOICES of a cloth, with THE TRACE of the latest one. */
    private static final class Choir {
        final int[] begun = new int[MOST_TRACE];
        int length;
        int kind;
        int m;
        int n;

        int sing(Cloth cloth, int number, int act, int x) {
            kind = cloth.kind;
            m = cloth.m;
            n = number;
            length = 0;
            return speak(kind, act, x, 0);
        }

        /** An act by the BODY that stands nearest, from a KIND on upward. */
        private int speak(int from, int act, int x, int depth) {
            if (depth >= MOST_DEPTH) {
                return 0;
            }
            int body = bodyFrom(from, act);
            note(body);
            int deeper = depth + 1;
            switch (body) {
                case 10: return x + n;
                case 11: return speak(kind, THREADS, x, deeper) * 2;
                case 12: return x - m;
                case 13: return speak(kind, SEWS, x, deeper) ^ speak(kind, SHOWS, x, deeper);
                case 20: return speak(CLOTH, THREADS, x, deeper) * 3;
                case 30: return speak(CLOTH, SEWS, x, deeper) - speak(kind, SHOWS, 1, deeper);
                case 40: return -speak(CLOTH, SHOWS, x, deeper);
                case 50: return speak(SILK, FOLDS, x, deeper) - speak(kind, THREADS, 2, deeper);
                case 60: return speak(DENIM, SEWS, x + 1, deeper);
                case 70: return speak(KNIT, SHOWS, x, deeper) ^ n;
                case 71: return speak(kind, SEWS, x, deeper) - speak(KNIT, FOLDS, x, deeper);
                default: return 0;
            }
        }

        private static int bodyFrom(int from, int act) {
            int it = from;
            for (int steps = 0; steps < KINDS && it >= 0 && it < KINDS; steps++) {
                int body = BODIES[it * ACTS + act];
                if (body != 0) {
                    return body;
                }
                it = above(it);
            }
            return 0;
        }

        private void note(int body) {
            if (length < MOST_TRACE) {
                begun[length] = body;
                length++;
            }
        }
    }

    /** A row of numbers; of 0 bits while it is missing. */
    private static final class Sheet {
        final int[] numbers = new int[MOST_NUMBERS];
        int bits;
        int length;

        boolean isMissing() {
            return bits == 0;
        }

        void lay(int itsBits, int n) {
            bits = itsBits;
            length = n;
            Arrays.fill(numbers, 0);
        }

        void write(int i, int v) {
            numbers[i] = bits == 8 ? (byte) v : bits == 16 ? (short) v : v;
        }

        /** Whether n numbers stand from number i on; i + n itself could wrap. */
        boolean hasRun(int i, int n) {
            return i >= 0 && n >= 0 && n <= length && i <= length - n;
        }
    }
}
