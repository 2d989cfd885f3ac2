/** Rivers told as a text, sticks put into them, and what can be asked of both. README.md says how to use it. */
public final class QuotedRiver {
    public static final int NONE = -1;

    private static final int NO_SUCH = -2;
    private static final int BELOW_NOTHING = -3;
    private static final int FAULTY = -4;
    private static final int NOT_NOW = -5;
    private static final int EMPTY = -6;
    private static final int NO_NUMBER = -7;
    private static final int OTHER_WIDTH = -8;
    private static final int NO_SHARE = -1000;

    private static final int SEA = -1;
    private static final int NOT_YET = -2;

    private static final int LAST_STEP = 60;
    private static final int STEPS = 61;
    private static final int LAST_CHANCE_STEP = 14;
    private static final int NEVER = 1000;

    private static final int MOST_BYTES = 700;
    private static final int FED_BYTES = 20;
    private static final int MOST_REACHES = 10;
    private static final int MOST_JOINS = 5;
    private static final int MOST_RAINS = 5;
    private static final int MOST_ACTS = 30;
    private static final int MOST_LEVEL = 60;
    private static final int MOST_RAIN = 30;
    private static final int MOST_LOW = 20;
    private static final int MOST_EACH = 9;
    private static final int MOST_POURED = 60;
    private static final int MOST_DAYS = 20;
    private static final int MOST_SEED = 2000000000;
    private static final int SLOTS = 4;
    private static final int WIDEST = 3;
    private static final int MOST_NUMBERS = 60;
    private static final int IMAGES = 3;
    private static final int MOST_LET_OUT = 4;

    /** In the sea, not put in yet, or in one of ten REACHES. */
    private static final int SORTS_OF_SPOT = 12;
    /** Above 60 told, 5 and 30 rains of 30, and 14 swells of 9. */
    private static final int LEVELS = 1240;

    private static final int ACT_CLOSE = 1;
    private static final int ACT_POUR = 2;

    private final Tape tape = new Tape();
    private final Reader reader = new Reader();
    private final Rivers now = new Rivers();
    private final Rivers tried = new Rivers();
    private final Rivers[] images = new Rivers[IMAGES];
    private int imagesKept = 0;
    private final Water water = new Water();
    private final Water trial = new Water();
    private final Stick stick = new Stick();
    private final Stick mate = new Stick();
    private final Row[] rows = new Row[SLOTS];
    private final Sources found = new Sources();
    private final Chances chances = new Chances();
    private final int[] scratch = new int[STEPS];

    public QuotedRiver() {
        for (int k = 0; k < images.length; k++) {
            images[k] = new Rivers();
        }
        for (int k = 0; k < rows.length; k++) {
            rows[k] = new Row();
        }
    }

    // The text and what it tells: promises 2 to 8.

    public int feed(int a, int b, int c, int d, int e) {
        if (tape.size > MOST_BYTES - FED_BYTES) {
            return NONE;
        }
        tape.append(a);
        tape.append(b);
        tape.append(c);
        tape.append(d);
        tape.append(e);
        return tape.size;
    }

    public int end(int n) {
        if (n < 0 || n > tape.size) {
            return NONE;
        }
        tape.size = n;
        return n;
    }

    public int rivers() {
        reader.read(tape);
        tape.size = 0;
        if (reader.fault != 0) {
            return FAULTY;
        }
        now.become(reader.rivers);
        water.settle(now);
        return now.lines();
    }

    public int fault(int what) {
        if (what == 0) {
            return reader.fault;
        }
        return what == 1 ? reader.faultPlace : NONE;
    }

    public int reach(int reach, int what) {
        if (!isReach(reach)) {
            return NO_SUCH;
        }
        switch (what) {
            case 0: return pick(now.target, reach);
            case 1: return pick(now.takes, reach);
            case 2: return pick(now.low, reach);
            default: return NO_SUCH;
        }
    }

    public int join(int join, int what) {
        if (!isJoin(join)) {
            return NO_SUCH;
        }
        switch (what) {
            case 0: return pick(now.joinFrom, join);
            case 1: return pick(now.joinTo, join);
            case 2: return pick(now.joinEach, join);
            case 3: return pick(now.joinAt, join);
            default: return NO_SUCH;
        }
    }

    public int rain(int rain, int what) {
        if (rain < 0 || rain >= now.rains) {
            return NO_SUCH;
        }
        switch (what) {
            case 0: return pick(now.rainMuch, rain);
            case 1: return pick(now.rainStep, rain);
            default: return NO_SUCH;
        }
    }

    // LEVEL: promises 9 to 12, 24, 27, 32 to 34.

    public int level(int step) {
        return hasStep(step) ? water.levelAt(step) : NO_SUCH;
    }

    public int stands(int step) {
        return hasStep(step) ? standing(step) : NO_SUCH;
    }

    public int flows(int step) {
        return hasStep(step) ? allReaches() & ~standing(step) : NO_SUCH;
    }

    public int dry(int reach) {
        if (!isReach(reach)) {
            return NO_SUCH;
        }
        for (int step = 0; step <= LAST_STEP; step++) {
            if (isStanding(reach, step)) {
                return step;
            }
        }
        return NONE;
    }

    public int drought(int reach) {
        if (!isReach(reach)) {
            return NO_SUCH;
        }
        int most = 0;
        int run = 0;
        for (int step = 0; step <= LAST_STEP; step++) {
            run = isStanding(reach, step) ? run + 1 : 0;
            most = Math.max(most, run);
        }
        return most;
    }

    public int idle(int reach) {
        if (!isReach(reach)) {
            return NO_SUCH;
        }
        int steps = 0;
        for (int step = 0; step <= LAST_STEP; step++) {
            if (isStanding(reach, step)) {
                steps++;
            }
        }
        return steps;
    }

    public int rained(int step) {
        if (!hasStep(step)) {
            return NO_SUCH;
        }
        int sum = 0;
        for (int at = 0; at <= step; at++) {
            sum += water.rainAt(at);
        }
        return sum;
    }

    public int lowest() {
        return now.told ? leastStep() : NO_SUCH;
    }

    public int deeper() {
        return now.told ? Math.min(MOST_LOW, water.levelAt(leastStep())) : NO_SUCH;
    }

    // One STICK: promises 13 to 20, 36 and 38.

    public int where(int reach, int step, int then) {
        if (!isStep(then) || then < step || !putIn(reach, step)) {
            return NO_SUCH;
        }
        return stick.spotAt(then);
    }

    public int sea(int reach, int step) {
        return putIn(reach, step) ? stick.inSea : NO_SUCH;
    }

    public int comes(int reach, int step, int other) {
        if (!isReach(other) || !putIn(reach, step)) {
            return NO_SUCH;
        }
        return stick.firstIn(other);
    }

    public int way(int reach, int step) {
        return putIn(reach, step) ? stick.visited : NO_SUCH;
    }

    public int leaves(int reach, int step) {
        return putIn(reach, step) ? stick.departures : NO_SUCH;
    }

    public int waits(int reach, int step) {
        return putIn(reach, step) ? stick.stood : NO_SUCH;
    }

    public int jumps(int reach, int step) {
        return putIn(reach, step) ? stick.byJoin : NO_SUCH;
    }

    public int finds(int reach, int step) {
        return putIn(reach, step) ? stick.newest : NO_SUCH;
    }

    public int used(int reach, int step) {
        return putIn(reach, step) ? stick.joinsTaken : NO_SUCH;
    }

    public int again(int reach, int step) {
        return putIn(reach, step) ? stick.revisit : NO_SUCH;
    }

    // Several STICKS put in at one STEP: promises 21 to 23, 25, 26 and 37.

    public int from(int reach, int step) {
        if (!isReach(reach) || !isStep(step)) {
            return NO_SUCH;
        }
        int set = 0;
        for (int each = 0; each < now.reaches; each++) {
            stick.drift(now, water, each, 0);
            if (stick.spotAt(step) == reach) {
                set |= bit(each);
            }
        }
        return set;
    }

    public int ends(int step) {
        if (!hasStep(step)) {
            return NO_SUCH;
        }
        int set = 0;
        for (int each = 0; each < now.reaches; each++) {
            stick.drift(now, water, each, step);
            if (stick.inSea != NONE) {
                set |= bit(each);
            }
        }
        return set;
    }

    public int together(int reach, int step) {
        if (!putIn(reach, step)) {
            return NO_SUCH;
        }
        int set = 0;
        for (int each = 0; each < now.reaches; each++) {
            mate.drift(now, water, each, step);
            if (mate.spotAt(LAST_STEP) == stick.spotAt(LAST_STEP)) {
                set |= bit(each);
            }
        }
        return set;
    }

    public int meet(int reach, int other) {
        if (!putBothIn(reach, other)) {
            return NO_SUCH;
        }
        for (int step = 0; step <= LAST_STEP; step++) {
            if (shareReach(step)) {
                return step;
            }
        }
        return NONE;
    }

    public int alike(int reach, int other) {
        if (!putBothIn(reach, other)) {
            return NO_SUCH;
        }
        int steps = 0;
        for (int step = 0; step <= LAST_STEP; step++) {
            if (shareReach(step)) {
                steps++;
            }
        }
        return steps;
    }

    public int busy(int step) {
        if (!hasStep(step)) {
            return NO_SUCH;
        }
        for (int each = 0; each < now.reaches; each++) {
            put(scratch, each, 0);
        }
        for (int each = 0; each < now.reaches; each++) {
            stick.drift(now, water, each, 0);
            int spot = stick.spotAt(step);
            put(scratch, spot, pick(scratch, spot) + 1);
        }
        int best = NONE;
        int most = 0;
        for (int each = 0; each < now.reaches; each++) {
            if (pick(scratch, each) > most) {
                most = pick(scratch, each);
                best = each;
            }
        }
        return best;
    }

    // The course as told: promises 28 to 31 and 35.

    public int mouths() {
        if (!now.told) {
            return NO_SUCH;
        }
        int set = 0;
        for (int each = 0; each < now.reaches; each++) {
            if (pick(now.target, each) == SEA) {
                set |= bit(each);
            }
        }
        return set;
    }

    public int springs() {
        if (!now.told) {
            return NO_SUCH;
        }
        int fed = 0;
        for (int each = 0; each < now.reaches; each++) {
            fed |= bit(pick(now.target, each));
        }
        for (int each = 0; each < now.joins; each++) {
            fed |= bit(pick(now.joinTo, each));
        }
        return allReaches() & ~fed;
    }

    public int depth(int reach) {
        if (!isReach(reach)) {
            return NO_SUCH;
        }
        int at = reach;
        for (int passed = 1; passed <= MOST_REACHES; passed++) {
            at = pick(now.target, at);
            if (at == SEA) {
                return passed;
            }
        }
        return NONE;
    }

    public int rings() {
        if (!now.told) {
            return NO_SUCH;
        }
        int set = 0;
        for (int each = 0; each < now.reaches; each++) {
            if (isInRing(each)) {
                set |= bit(each);
            }
        }
        return set;
    }

    public int goes(int join, int step) {
        if (!isJoin(join) || !isStep(step)) {
            return NO_SUCH;
        }
        return (water.shutJoins & bit(join)) == 0 && now.takesTurn(join, step) ? 1 : 0;
    }

    // A STICK put in at any STEP: promises 39, 40 and 43 to 49.

    public int can(int reach) {
        if (!isReach(reach)) {
            return NO_SUCH;
        }
        int set = 0;
        for (int step = 0; step <= LAST_STEP; step++) {
            stick.drift(now, water, reach, step);
            set |= stick.visited;
        }
        return set;
    }

    public int slowly(int reach, int other) {
        if (!isReach(reach) || !isReach(other)) {
            return NO_SUCH;
        }
        int most = NONE;
        for (int step = 0; step <= LAST_STEP; step++) {
            int arrival = coming(reach, step, other);
            if (arrival != NONE) {
                most = Math.max(most, arrival - step);
            }
        }
        return most;
    }

    public int soon(int reach, int other) {
        if (!isReach(reach) || !isReach(other)) {
            return NO_SUCH;
        }
        int best = NONE;
        int earliest = NEVER;
        for (int step = 0; step <= LAST_STEP; step++) {
            int arrival = coming(reach, step, other);
            if (arrival != NONE && arrival <= earliest) {
                earliest = arrival;
                best = step;
            }
        }
        return best;
    }

    public int quick(int reach, int other) {
        if (!isReach(reach) || !isReach(other)) {
            return NO_SUCH;
        }
        int step = quickestStep(reach, other);
        return step == NONE ? NONE : coming(reach, step, other) - step;
    }

    public int quickly(int reach, int other) {
        if (!isReach(reach) || !isReach(other)) {
            return NO_SUCH;
        }
        return quickestStep(reach, other);
    }

    public int late(int reach, int other, int then) {
        if (!isReach(reach) || !isReach(other) || !isStep(then)) {
            return NO_SUCH;
        }
        for (int step = then; step >= 0; step--) {
            stick.drift(now, water, reach, step);
            if (stick.spotAt(then) == other) {
                return step;
            }
        }
        return NONE;
    }

    public int often(int reach, int other) {
        if (!isReach(reach) || !isReach(other)) {
            return NO_SUCH;
        }
        int steps = 0;
        for (int step = 0; step <= LAST_STEP; step++) {
            if (coming(reach, step, other) != NONE) {
                steps++;
            }
        }
        return steps;
    }

    public int stop(int reach, int other) {
        if (!isReach(reach) || !isReach(other)) {
            return NO_SUCH;
        }
        int set = stoppingSet(reach, other);
        return set == NONE ? NONE : Integer.bitCount(set);
    }

    public int stops(int reach, int other) {
        if (!isReach(reach) || !isReach(other)) {
            return NO_SUCH;
        }
        return stoppingSet(reach, other);
    }

    // What would help a STICK: promises 50 and 51.

    public int shut(int reach, int step) {
        if (!putIn(reach, step)) {
            return NO_SUCH;
        }
        int soonest = stick.inSea == NONE ? NEVER : stick.inSea;
        int best = NONE;
        trial.become(water);
        for (int join = 0; join < now.joins; join++) {
            trial.shutJoins = water.shutJoins | bit(join);
            stick.drift(now, trial, reach, step);
            if (stick.inSea != NONE && stick.inSea < soonest) {
                soonest = stick.inSea;
                best = join;
            }
        }
        return best;
    }

    public int pour(int reach, int step, int at) {
        if (!isReach(reach) || !isStep(step) || !isStep(at)) {
            return NO_SUCH;
        }
        trial.become(water);
        for (int n = 0; n <= MOST_POURED; n++) {
            stick.drift(now, trial, reach, step);
            if (stick.inSea != NONE) {
                return n;
            }
            trial.addRain(at, 1);
            trial.fall(now.level);
        }
        return NONE;
    }

    // Where a STICK was put in, and by which turn a JOIN goes: promises 52 to 58.

    public int fits(int slot) {
        int refusal = refuseSeen(slot);
        return refusal != 0 ? refusal : search(slot).pairs;
    }

    public int sources(int slot) {
        int refusal = refuseSeen(slot);
        return refusal != 0 ? refusal : search(slot).reaches;
    }

    public int source(int slot) {
        int refusal = refuseSeen(slot);
        return refusal != 0 ? refusal : search(slot).first;
    }

    public int ask(int slot) {
        int refusal = refuseSeen(slot);
        return refusal != 0 ? refusal : search(slot).bestStep();
    }

    public int doubts(int slot) {
        int refusal = refuseSeen(slot);
        return refusal != 0 ? refusal : search(slot).leastLeft();
    }

    public int turn(int slot, int join, int reach) {
        int refusal = refuseTurn(slot, join, reach);
        return refusal != 0 ? refusal : searchTurns(slot, join, reach).pairs;
    }

    public int turned(int slot, int join, int reach) {
        int refusal = refuseTurn(slot, join, reach);
        return refusal != 0 ? refusal : searchTurns(slot, join, reach).first;
    }

    // Two cities at their SLUICES: promises 42 and 59 to 62.

    public int answer(int y) {
        return isLetOut(y) ? bestAnswer(y) : NO_SUCH;
    }

    public int rests() {
        int pairs = 0;
        for (int x = 0; x <= MOST_LET_OUT; x++) {
            for (int y = 0; y <= MOST_LET_OUT; y++) {
                if (isRest(x, y)) {
                    pairs++;
                }
            }
        }
        return pairs;
    }

    public int rest() {
        for (int x = 0; x <= MOST_LET_OUT; x++) {
            for (int y = 0; y <= MOST_LET_OUT; y++) {
                if (isRest(x, y)) {
                    return 10 * x + y;
                }
            }
        }
        return NONE;
    }

    public int has(int x, int y) {
        return isLetOut(x) && isLetOut(y) ? share(x, y) : NO_SHARE;
    }

    public int treaty() {
        int most = share(0, 0) + share(0, 0);
        for (int x = 0; x <= MOST_LET_OUT; x++) {
            for (int y = 0; y <= MOST_LET_OUT; y++) {
                most = Math.max(most, share(x, y) + share(y, x));
            }
        }
        return most;
    }

    // RAIN by chance, and DAYS drawn: promises 41, 63, 64, 69 and 70.

    public long mean(int step, int what) {
        if (!hasChance(step) || what < 0 || what > 1) {
            return NO_SUCH;
        }
        weighTo(step);
        return toldFraction(chances.weightedSum(), chances.whole, what);
    }

    public long chance(int step, int n, int what) {
        if (!hasChance(step) || n < 0 || n > 99 || what < 0 || what > 1) {
            return NO_SUCH;
        }
        weighTo(step);
        return toldFraction(chances.whole - chances.weightBelow(n), chances.whole, what);
    }

    public int risk(int reach, int p) {
        if (!isReach(reach) || p < 0 || p > 100) {
            return NO_SUCH;
        }
        int low = pick(now.low, reach);
        for (int step = 0; step <= LAST_CHANCE_STEP; step++) {
            weighNext(step);
            if (100 * chances.weightBelow(low) >= p * chances.whole) {
                return step;
            }
        }
        return NONE;
    }

    public int drawn(int seed, int what) {
        if (!now.told || !isSeed(seed) || what < 0 || what > 1) {
            return NO_SUCH;
        }
        int swells = drawDay(seed);
        return what == 0 ? trial.levelAt(LAST_STEP) : swells;
    }

    public int luck(int seed, int n, int reach) {
        if (!isSeed(seed) || n < 1 || n > MOST_DAYS || !isReach(reach)) {
            return NO_SUCH;
        }
        int days = 0;
        for (int day = 0; day < n; day++) {
            drawDay((long) seed + day);
            stick.drift(now, trial, reach, 0);
            if (stick.inSea != NONE) {
                days++;
            }
        }
        return days;
    }

    // Acts: promises 65 to 68 and 71.

    public int close(int join, int on) {
        if (!isJoin(join) || on < 0 || on > 1) {
            return NO_SUCH;
        }
        if (now.acts >= MOST_ACTS) {
            return NOT_NOW;
        }
        int was = (water.shutJoins & bit(join)) != 0 ? 1 : 0;
        now.addAct(ACT_CLOSE, join, on);
        water.settle(now);
        return was;
    }

    public int pours(int step, int n) {
        if (!hasStep(step) || n < 1 || n > MOST_RAIN) {
            return NO_SUCH;
        }
        if (now.acts >= MOST_ACTS) {
            return NOT_NOW;
        }
        now.addAct(ACT_POUR, step, n);
        water.settle(now);
        return water.levelAt(step);
    }

    public int undo() {
        if (!now.told) {
            return NO_SUCH;
        }
        if (now.acts <= 0) {
            return NOT_NOW;
        }
        now.acts--;
        water.settle(now);
        return now.acts;
    }

    public int anew() {
        if (!now.told) {
            return NO_SUCH;
        }
        int were = now.acts;
        now.acts = 0;
        water.settle(now);
        return were;
    }

    public int deepen(int reach, int n) {
        if (!isReach(reach) || n < 0 || n > MOST_LOW) {
            return NO_SUCH;
        }
        if (now.acts > 0) {
            return NOT_NOW;
        }
        int was = pick(now.low, reach);
        put(now.low, reach, n);
        return was;
    }

    // What there is, and IMAGES: promises 72 to 74.

    public int count(int what) {
        switch (what) {
            case 0: return now.level;
            case 1: return now.odds;
            case 2: return now.swell;
            case 3: return now.reaches;
            case 4: return now.joins;
            case 5: return now.rains;
            case 6: return now.acts;
            case 7: return now.lines();
            case 8: return tape.size;
            case 9: return rowsThere();
            default: return NONE;
        }
    }

    public int image(int k) {
        Rivers image = imageOf(k);
        if (image == null) {
            return NO_SUCH;
        }
        image.become(now);
        imagesKept |= bit(k);
        return 0;
    }

    public int back(int k) {
        Rivers image = imageOf(k);
        if (image == null) {
            return NO_SUCH;
        }
        if ((imagesKept & bit(k)) == 0) {
            return EMPTY;
        }
        now.become(image);
        water.settle(now);
        return 0;
    }

    // SLOTS: promises 75 to 77.

    public int row(int slot, int width, int n) {
        Row row = rowOf(slot);
        if (row == null || width < 0 || width > WIDEST || n > MOST_NUMBERS) {
            return NO_SUCH;
        }
        if (n < 0) {
            return BELOW_NOTHING;
        }
        row.lay(width, n);
        return 0;
    }

    public int write(int slot, int i, long v) {
        Row row = rowOf(slot);
        if (row == null) {
            return NO_SUCH;
        }
        if (!row.there) {
            return EMPTY;
        }
        if (i < 0 || i >= row.size) {
            return NO_NUMBER;
        }
        row.store(i, cut(v, row.width));
        return 0;
    }

    public int paste(int slot, int i, int to, int k, int n) {
        Row source = rowOf(slot);
        Row target = rowOf(to);
        if (source == null || target == null) {
            return NO_SUCH;
        }
        if (!source.there || !target.there) {
            return EMPTY;
        }
        if (source.width != target.width) {
            return OTHER_WIDTH;
        }
        if (!source.reachesOver(i, n) || !target.reachesOver(k, n)) {
            return NO_NUMBER;
        }
        // Within one row, what is still to be taken must not be written over.
        boolean lastFirst = k > i;
        for (int done = 0; done < n; done++) {
            int next = lastFirst ? n - 1 - done : done;
            target.store(k + next, source.number(i + next));
        }
        return 0;
    }

    // Which arguments there are.

    private static boolean isStep(int step) {
        return step >= 0 && step <= LAST_STEP;
    }

    private boolean hasStep(int step) {
        return now.told && isStep(step);
    }

    private boolean hasChance(int step) {
        return now.told && step >= 0 && step <= LAST_CHANCE_STEP;
    }

    private boolean isReach(int reach) {
        return reach >= 0 && reach < now.reaches;
    }

    private boolean isJoin(int join) {
        return join >= 0 && join < now.joins;
    }

    private static boolean isSeed(int seed) {
        return seed >= 0 && seed <= MOST_SEED;
    }

    private static boolean isLetOut(int n) {
        return n >= 0 && n <= MOST_LET_OUT;
    }

    private Row rowOf(int slot) {
        return slot >= 0 && slot < rows.length ? rows[slot] : null;
    }

    private Rivers imageOf(int k) {
        return k >= 0 && k < images.length ? images[k] : null;
    }

    private int rowsThere() {
        int there = 0;
        for (Row row : rows) {
            if (row != null && row.there) {
                there++;
            }
        }
        return there;
    }

    // LEVEL and the course.

    private boolean isStanding(int reach, int step) {
        return water.levelAt(step) < pick(now.low, reach);
    }

    private int standing(int step) {
        int set = 0;
        for (int reach = 0; reach < now.reaches; reach++) {
            if (isStanding(reach, step)) {
                set |= bit(reach);
            }
        }
        return set;
    }

    private int allReaches() {
        return bit(now.reaches) - 1;
    }

    private int leastStep() {
        int best = 0;
        for (int step = 1; step <= LAST_STEP; step++) {
            if (water.levelAt(step) < water.levelAt(best)) {
                best = step;
            }
        }
        return best;
    }

    private boolean isInRing(int reach) {
        int at = reach;
        for (int passed = 0; passed < MOST_REACHES && at != SEA; passed++) {
            at = pick(now.target, at);
            if (at == reach) {
                return true;
            }
        }
        return false;
    }

    // STICKS.

    private boolean putIn(int reach, int step) {
        if (!isReach(reach) || !isStep(step)) {
            return false;
        }
        stick.drift(now, water, reach, step);
        return true;
    }

    private boolean putBothIn(int reach, int other) {
        if (!isReach(other) || !putIn(reach, 0)) {
            return false;
        }
        mate.drift(now, water, other, 0);
        return true;
    }

    private boolean shareReach(int step) {
        return stick.spotAt(step) != SEA && stick.spotAt(step) == mate.spotAt(step);
    }

    private int coming(int reach, int step, int other) {
        stick.drift(now, water, reach, step);
        return stick.firstIn(other);
    }

    private int quickestStep(int reach, int other) {
        int best = NONE;
        int fewest = NEVER;
        for (int step = 0; step <= LAST_STEP; step++) {
            int arrival = coming(reach, step, other);
            if (arrival != NONE && arrival - step < fewest) {
                fewest = arrival - step;
                best = step;
            }
        }
        return best;
    }

    /** The least of the smallest sets that, STOPPED, part a REACH from another one; NONE without one. */
    private int stoppingSet(int reach, int other) {
        if (reach == other) {
            return NONE;
        }
        int ways = noteWays(reach, other);
        int barred = bit(reach) | bit(other);
        int best = NONE;
        int fewest = NEVER;
        for (int set = 0; set <= allReaches(); set++) {
            int size = Integer.bitCount(set);
            if ((set & barred) == 0 && size < fewest && cutsAll(set, ways)) {
                best = set;
                fewest = size;
            }
        }
        return best;
    }

    /**
     * Notes for each STICK that comes to another REACH those in which it is ahead of that: a set of STOPPED
     * REACHES keeps it from there just if it has one of these.
     */
    private int noteWays(int reach, int other) {
        int ways = 0;
        for (int step = 0; step <= LAST_STEP; step++) {
            stick.drift(now, water, reach, step);
            int arrival = stick.firstIn(other);
            if (arrival != NONE) {
                put(scratch, ways, stick.visitedAhead(step, arrival));
                ways++;
            }
        }
        return ways;
    }

    private boolean cutsAll(int set, int ways) {
        for (int way = 0; way < ways; way++) {
            if ((pick(scratch, way) & set) == 0) {
                return false;
            }
        }
        return true;
    }

    // What was SEEN.

    private int refuseSeen(int slot) {
        Row row = rowOf(slot);
        if (row == null || !now.told) {
            return NO_SUCH;
        }
        if (!row.there) {
            return EMPTY;
        }
        return row.tellsSpots(now.reaches) ? 0 : NO_SUCH;
    }

    private int refuseTurn(int slot, int join, int reach) {
        return isJoin(join) && isReach(reach) ? refuseSeen(slot) : NO_SUCH;
    }

    private Sources search(int slot) {
        found.clear();
        Row row = rowOf(slot);
        if (row == null) {
            return found;
        }
        int latest = row.earliestStep();
        for (int reach = 0; reach < now.reaches; reach++) {
            for (int step = 0; step <= latest; step++) {
                stick.drift(now, water, reach, step);
                if (stick.wasSeen(row)) {
                    found.add(100 * reach + step);
                    found.reaches |= bit(reach);
                    found.note(stick);
                }
            }
        }
        return found;
    }

    private Sources searchTurns(int slot, int join, int reach) {
        found.clear();
        Row row = rowOf(slot);
        if (row == null) {
            return found;
        }
        tried.become(now);
        for (int each = 1; each <= MOST_EACH; each++) {
            for (int at = 0; at < each; at++) {
                put(tried.joinEach, join, each);
                put(tried.joinAt, join, at);
                stick.drift(tried, water, reach, 0);
                if (stick.wasSeen(row)) {
                    found.add(10 * each + at);
                }
            }
        }
        return found;
    }

    // SLUICES.

    private static int share(int x, int y) {
        return 6 * x - x * (x + y);
    }

    private static int bestAnswer(int y) {
        int best = 0;
        for (int x = 1; x <= MOST_LET_OUT; x++) {
            if (share(x, y) > share(best, y)) {
                best = x;
            }
        }
        return best;
    }

    private static boolean isRest(int x, int y) {
        return share(x, y) == share(bestAnswer(y), y) && share(y, x) == share(bestAnswer(x), x);
    }

    // Chance and DRAWS.

    private void weighTo(int step) {
        for (int at = 0; at <= step; at++) {
            weighNext(at);
        }
    }

    /** To be called for STEPS 0, 1, .. one behind the other. */
    private void weighNext(int step) {
        if (step == 0) {
            chances.begin(water.levelAt(0));
        } else {
            chances.advance(water.rainAt(step), now.odds, now.swell);
        }
    }

    private static long toldFraction(long above, long below, int what) {
        long shared = commonDivisor(above, below);
        if (shared <= 0) {
            return 0;
        }
        return (what == 0 ? above : below) / shared;
    }

    private static long commonDivisor(long a, long b) {
        // Euclid takes fewer than 100 turns for any two longs.
        for (int i = 0; i < 200 && b != 0; i++) {
            long left = a % b;
            a = b;
            b = left;
        }
        return a;
    }

    /** The DAY's water is in trial then; the answer is how often it rained by chance. */
    private int drawDay(long seed) {
        trial.become(water);
        long x = seed;
        int swells = 0;
        for (int step = 1; step <= LAST_STEP; step++) {
            x = (1103515245L * x + 12345L) % 2147483648L;
            if (x / 65536L % 10L < now.odds) {
                trial.addRain(step, now.swell);
                swells++;
            }
        }
        trial.fall(now.level);
        return swells;
    }

    // Rows of numbers, each place looked at before it is used.

    private static int bit(int place) {
        return place >= 0 && place <= MOST_REACHES ? 1 << place : 0;
    }

    private static int pick(int[] row, int place) {
        return place >= 0 && place < row.length ? row[place] : 0;
    }

    private static void put(int[] row, int place, int value) {
        if (place >= 0 && place < row.length) {
            row[place] = value;
        }
    }

    private static void copy(int[] source, int[] target) {
        for (int i = 0; i < source.length && i < target.length; i++) {
            target[i] = source[i];
        }
    }

    private static long cut(long v, int width) {
        switch (width) {
            case 0: return (byte) v;
            case 1: return (short) v;
            case 2: return (int) v;
            default: return v;
        }
    }

    private static final class Tape {
        private final int[] bytes = new int[MOST_BYTES];
        private int size = 0;

        private void append(int four) {
            for (int shift = 24; shift >= 0; shift -= 8) {
                put(bytes, size, four >>> shift & 255);
                size++;
            }
        }

        private int byteAt(int place) {
            return place >= 0 && place < bytes.length ? bytes[place] : 0;
        }

        private boolean says(String word, int place) {
            for (int i = 0; i < word.length(); i++) {
                if (byteAt(place + i) != word.charAt(i)) {
                    return false;
                }
            }
            return true;
        }
    }

    /** RIVERS as told and the acts, all that an IMAGE keeps. */
    private static final class Rivers {
        private boolean told = false;
        private int level = 0;
        private int odds = 0;
        private int swell = 0;
        private int reaches = 0;
        private final int[] target = new int[MOST_REACHES];
        private final int[] takes = new int[MOST_REACHES];
        private final int[] low = new int[MOST_REACHES];
        private int joins = 0;
        private final int[] joinFrom = new int[MOST_JOINS];
        private final int[] joinTo = new int[MOST_JOINS];
        private final int[] joinEach = new int[MOST_JOINS];
        private final int[] joinAt = new int[MOST_JOINS];
        private int rains = 0;
        private final int[] rainMuch = new int[MOST_RAINS];
        private final int[] rainStep = new int[MOST_RAINS];
        private int acts = 0;
        private final int[] actKind = new int[MOST_ACTS];
        private final int[] actOn = new int[MOST_ACTS];
        private final int[] actBy = new int[MOST_ACTS];

        private void clear() {
            told = false;
            level = 0;
            odds = 0;
            swell = 0;
            reaches = 0;
            joins = 0;
            rains = 0;
            acts = 0;
        }

        private void become(Rivers other) {
            told = other.told;
            level = other.level;
            odds = other.odds;
            swell = other.swell;
            reaches = other.reaches;
            joins = other.joins;
            rains = other.rains;
            acts = other.acts;
            copy(other.target, target);
            copy(other.takes, takes);
            copy(other.low, low);
            copy(other.joinFrom, joinFrom);
            copy(other.joinTo, joinTo);
            copy(other.joinEach, joinEach);
            copy(other.joinAt, joinAt);
            copy(other.rainMuch, rainMuch);
            copy(other.rainStep, rainStep);
            copy(other.actKind, actKind);
            copy(other.actOn, actOn);
            copy(other.actBy, actBy);
        }

        private int lines() {
            return told ? 1 + reaches + joins + rains : 0;
        }

        /** Only when the text has ended is it known which REACHES there are. */
        private void sendToSea() {
            for (int reach = 0; reach < reaches; reach++) {
                if (pick(target, reach) >= reaches) {
                    put(target, reach, SEA);
                }
            }
        }

        private void addAct(int kind, int on, int by) {
            put(actKind, acts, kind);
            put(actOn, acts, on);
            put(actBy, acts, by);
            acts++;
        }

        private boolean takesTurn(int join, int step) {
            int each = pick(joinEach, join);
            return each > 0 && step % each == pick(joinAt, join);
        }
    }

    /** What acts make of RIVERS: rains and LEVEL of each STEP, and which JOINS are shut. */
    private static final class Water {
        private final int[] rains = new int[STEPS];
        private final int[] levels = new int[STEPS];
        private int shutJoins = 0;

        private int rainAt(int step) {
            return pick(rains, step);
        }

        private int levelAt(int step) {
            return pick(levels, step);
        }

        private void addRain(int step, int much) {
            put(rains, step, pick(rains, step) + much);
        }

        private void become(Water other) {
            copy(other.rains, rains);
            copy(other.levels, levels);
            shutJoins = other.shutJoins;
        }

        private void settle(Rivers rivers) {
            for (int step = 0; step <= LAST_STEP; step++) {
                put(rains, step, 0);
            }
            for (int rain = 0; rain < rivers.rains; rain++) {
                addRain(pick(rivers.rainStep, rain), pick(rivers.rainMuch, rain));
            }
            shutJoins = 0;
            for (int act = 0; act < rivers.acts; act++) {
                redo(pick(rivers.actKind, act), pick(rivers.actOn, act), pick(rivers.actBy, act));
            }
            fall(rivers.level);
        }

        private void redo(int kind, int on, int by) {
            if (kind == ACT_POUR) {
                addRain(on, by);
            } else if (by == 1) {
                shutJoins |= bit(on);
            } else {
                shutJoins &= ~bit(on);
            }
        }

        private void fall(int first) {
            int level = first + rainAt(0);
            put(levels, 0, level);
            for (int step = 1; step <= LAST_STEP; step++) {
                level = Math.max(0, level - 1) + rainAt(step);
                put(levels, step, level);
            }
        }
    }

    /** A STICK's way to STEP 60. */
    private static final class Stick {
        private final int[] spots = new int[STEPS];
        private int visited = 0;
        private int newest = NONE;
        private int revisit = NONE;
        private int inSea = NONE;
        private int stood = 0;
        private int departures = 0;
        private int byJoin = 0;
        private int joinsTaken = 0;

        private void drift(Rivers rivers, Water water, int reach, int start) {
            forget(start);
            visited = bit(reach);
            newest = reach;
            int spot = reach;
            int carried = 0;
            for (int step = start; step <= LAST_STEP; step++) {
                put(spots, step, spot);
                if (spot == SEA) {
                    continue;
                }
                if (water.levelAt(step) < pick(rivers.low, spot)) {
                    stood++;
                    continue;
                }
                carried++;
                if (carried < pick(rivers.takes, spot)) {
                    continue;
                }
                spot = depart(rivers, spot, step, water.shutJoins);
                carried = 0;
                arrive(spot, step + 1);
            }
        }

        private void forget(int start) {
            for (int step = 0; step < start; step++) {
                put(spots, step, NOT_YET);
            }
            revisit = NONE;
            inSea = NONE;
            stood = 0;
            departures = 0;
            byJoin = 0;
            joinsTaken = 0;
        }

        private int depart(Rivers rivers, int reach, int step, int shutJoins) {
            departures++;
            for (int join = 0; join < rivers.joins; join++) {
                boolean open = (shutJoins & bit(join)) == 0;
                if (open && pick(rivers.joinFrom, join) == reach && rivers.takesTurn(join, step)) {
                    byJoin++;
                    joinsTaken |= bit(join);
                    return pick(rivers.joinTo, join);
                }
            }
            return pick(rivers.target, reach);
        }

        private void arrive(int spot, int step) {
            // What LEAVES at STEP 60 is asked about no more.
            if (step > LAST_STEP) {
                return;
            }
            if (spot == SEA) {
                inSea = step;
            } else if ((visited & bit(spot)) == 0) {
                visited |= bit(spot);
                newest = spot;
            } else if (revisit == NONE) {
                revisit = step;
            }
        }

        private int spotAt(int step) {
            return step >= 0 && step <= LAST_STEP ? pick(spots, step) : NOT_YET;
        }

        private int firstIn(int reach) {
            for (int step = 0; step <= LAST_STEP; step++) {
                if (spotAt(step) == reach) {
                    return step;
                }
            }
            return NONE;
        }

        private int visitedAhead(int start, int stop) {
            int set = 0;
            for (int step = start; step < stop; step++) {
                set |= bit(spotAt(step));
            }
            return set;
        }

        private boolean wasSeen(Row row) {
            for (int i = 0; i + 1 < row.size; i += 2) {
                if (spotAt((int) row.number(i)) != (int) row.number(i + 1)) {
                    return false;
                }
            }
            return true;
        }
    }

    /** The pairs that fit what was SEEN. */
    private static final class Sources {
        private int pairs = 0;
        private int reaches = 0;
        private int first = NONE;
        /** How many of them were at each STEP in each spot. */
        private final int[] tally = new int[STEPS * SORTS_OF_SPOT];

        private void clear() {
            pairs = 0;
            reaches = 0;
            first = NONE;
            for (int i = 0; i < tally.length; i++) {
                tally[i] = 0;
            }
        }

        private void add(int pair) {
            if (pairs == 0) {
                first = pair;
            }
            pairs++;
        }

        private void note(Stick stick) {
            for (int step = 0; step <= LAST_STEP; step++) {
                int place = step * SORTS_OF_SPOT + stick.spotAt(step) - NOT_YET;
                put(tally, place, pick(tally, place) + 1);
            }
        }

        private int leftAtWorst(int step) {
            int most = 0;
            for (int sort = 0; sort < SORTS_OF_SPOT; sort++) {
                most = Math.max(most, pick(tally, step * SORTS_OF_SPOT + sort));
            }
            return most;
        }

        private int bestStep() {
            int best = NONE;
            int fewest = pairs;
            for (int step = 0; step <= LAST_STEP; step++) {
                int left = leftAtWorst(step);
                if (left < fewest) {
                    fewest = left;
                    best = step;
                }
            }
            return best;
        }

        private int leastLeft() {
            int step = bestStep();
            return step == NONE ? pairs : leftAtWorst(step);
        }
    }

    /** How likely each LEVEL of a STEP is: its weight, out of a whole of ten to the power of the STEP. */
    private static final class Chances {
        private long[] weights = new long[LEVELS];
        private long[] later = new long[LEVELS];
        /** Above it nothing is told, and old weights stand. */
        private int top = 0;
        private long whole = 1;

        private void begin(int level) {
            clear(weights, level);
            addWeight(weights, level, 1);
            top = level;
            whole = 1;
        }

        private void advance(int rain, int odds, int swell) {
            int laterTop = Math.max(0, top - 1) + rain + swell;
            clear(later, laterTop);
            for (int level = 0; level <= top && level < weights.length; level++) {
                int without = Math.max(0, level - 1) + rain;
                addWeight(later, without, weights[level] * (10 - odds));
                addWeight(later, without + swell, weights[level] * odds);
            }
            long[] old = weights;
            weights = later;
            later = old;
            top = laterTop;
            whole *= 10;
        }

        private static void clear(long[] row, int upTo) {
            for (int level = 0; level <= upTo && level < row.length; level++) {
                row[level] = 0;
            }
        }

        private static void addWeight(long[] row, int level, long weight) {
            if (level >= 0 && level < row.length) {
                row[level] += weight;
            }
        }

        private long weightBelow(int n) {
            long sum = 0;
            for (int level = 0; level < n && level <= top && level < weights.length; level++) {
                sum += weights[level];
            }
            return sum;
        }

        private long weightedSum() {
            long sum = 0;
            for (int level = 0; level <= top && level < weights.length; level++) {
                sum += level * weights[level];
            }
            return sum;
        }
    }

    /** A SLOT. */
    private static final class Row {
        private boolean there = false;
        private int width = 0;
        private int size = 0;
        private final long[] numbers = new long[MOST_NUMBERS];

        private void lay(int newWidth, int newSize) {
            there = true;
            width = newWidth;
            size = newSize;
            for (int i = 0; i < numbers.length; i++) {
                numbers[i] = 0;
            }
        }

        private long number(int i) {
            return i >= 0 && i < numbers.length ? numbers[i] : 0;
        }

        private void store(int i, long v) {
            if (i >= 0 && i < numbers.length) {
                numbers[i] = v;
            }
        }

        private boolean reachesOver(int i, int n) {
            return i >= 0 && n >= 0 && i <= size && n <= size - i;
        }

        private boolean tellsSpots(int reaches) {
            if (size % 2 != 0) {
                return false;
            }
            for (int i = 0; i < size; i += 2) {
                long step = number(i);
                long reach = number(i + 1);
                if (step < 0 || step > LAST_STEP || reach < 0 || reach >= reaches) {
                    return false;
                }
            }
            return true;
        }

        private int earliestStep() {
            int earliest = LAST_STEP;
            for (int i = 0; i < size; i += 2) {
                earliest = Math.min(earliest, (int) number(i));
            }
            return earliest;
        }
    }

    /** The TOKENS of a text and, behind them, its end. */
    private static final class Tokens {
        private static final int END = 0;
        private static final int SIGN = 1;
        private static final int NUMBER = 2;
        private static final int OTHER = 3;
        private static final int RIVERS = 4;
        private static final int LEVEL = 5;
        private static final int ODDS = 6;
        private static final int SWELL = 7;
        private static final int REACH = 8;
        private static final int TO = 9;
        private static final int SEA_WORD = 10;
        private static final int TAKES = 11;
        private static final int LOW = 12;
        private static final int JOIN = 13;
        private static final int EACH = 14;
        private static final int AT = 15;
        private static final int RAIN = 16;
        /** Above each bound, and so low that no more digits of a long number can pass an int. */
        private static final int HUGE = 1000;

        private final int[] kinds = new int[MOST_BYTES + 1];
        private final int[] places = new int[MOST_BYTES + 1];
        private final int[] values = new int[MOST_BYTES + 1];
        private int size = 0;

        private void scan(Tape tape) {
            size = 0;
            int next = 0;
            for (int place = 0; place < tape.size; place++) {
                if (place >= next && !isBlank(tape.byteAt(place))) {
                    next = scanToken(tape, place);
                }
            }
            add(END, tape.size, 0);
        }

        /** The answer is the place behind the TOKEN. */
        private int scanToken(Tape tape, int place) {
            int next = place + 1;
            if (isLetter(tape.byteAt(place))) {
                while (next < tape.size && isLetter(tape.byteAt(next))) {
                    next++;
                }
                add(wordKind(tape, place, next - place), place, 0);
            } else if (isDigit(tape.byteAt(place))) {
                while (next < tape.size && isDigit(tape.byteAt(next))) {
                    next++;
                }
                add(NUMBER, place, valueOf(tape, place, next));
            } else {
                add(tape.byteAt(place) == ';' ? SIGN : OTHER, place, 0);
            }
            return next;
        }

        private void add(int kind, int place, int value) {
            put(kinds, size, kind);
            put(places, size, place);
            put(values, size, value);
            size++;
        }

        private static int valueOf(Tape tape, int place, int stop) {
            int value = 0;
            for (int i = place; i < stop; i++) {
                value = Math.min(HUGE, 10 * value + tape.byteAt(i) - '0');
            }
            return value;
        }

        private static int wordKind(Tape tape, int place, int length) {
            switch (length) {
                case 2:
                    return tape.says("to", place) ? TO : tape.says("at", place) ? AT : OTHER;
                case 3:
                    return tape.says("sea", place) ? SEA_WORD : tape.says("low", place) ? LOW : OTHER;
                case 4:
                    return tape.says("join", place) ? JOIN : tape.says("each", place) ? EACH
                            : tape.says("rain", place) ? RAIN : tape.says("odds", place) ? ODDS : OTHER;
                case 5:
                    return tape.says("reach", place) ? REACH : tape.says("takes", place) ? TAKES
                            : tape.says("level", place) ? LEVEL : tape.says("swell", place) ? SWELL : OTHER;
                case 6:
                    return tape.says("rivers", place) ? RIVERS : OTHER;
                default:
                    return OTHER;
            }
        }

        private static boolean isBlank(int sign) {
            return sign == 32 || sign == 10;
        }

        private static boolean isLetter(int sign) {
            return sign >= 'a' && sign <= 'z';
        }

        private static boolean isDigit(int sign) {
            return sign >= '0' && sign <= '9';
        }
    }

    /** Reads a text into RIVERS of its own. Behind the first FAULT it takes nothing more. */
    private static final class Reader {
        private static final int FAULT_TOKEN = 1;
        private static final int FAULT_NUMBER = 2;
        private static final int FAULT_MANY = 3;

        private final Tokens tokens = new Tokens();
        private final Rivers rivers = new Rivers();
        private int fault = 0;
        private int faultPlace = NONE;
        private int kind = Tokens.END;
        private int next = 0;

        private void read(Tape tape) {
            tokens.scan(tape);
            rivers.clear();
            fault = 0;
            next = 0;
            kind = pick(tokens.kinds, next);
            for (int line = 0; line < MOST_BYTES && kind != Tokens.END && fault == 0; line++) {
                if (line == 0) {
                    readRivers();
                } else if (kind == Tokens.REACH) {
                    readReach();
                } else if (kind == Tokens.JOIN) {
                    readJoin();
                } else if (kind == Tokens.RAIN) {
                    readRain();
                } else {
                    blame(FAULT_TOKEN);
                }
                take(Tokens.SIGN);
            }
            // Nothing is taken behind the TOKEN of a FAULT, so it is the next one still.
            faultPlace = fault == 0 ? NONE : pick(tokens.places, next);
            rivers.sendToSea();
        }

        private void readRivers() {
            rivers.told = true;
            take(Tokens.RIVERS);
            rivers.level = takeNumber(Tokens.LEVEL, 0, MOST_LEVEL);
            rivers.odds = takeNumber(Tokens.ODDS, 0, 10);
            rivers.swell = takeNumber(Tokens.SWELL, 1, 9);
        }

        private void readReach() {
            int reach = claim(rivers.reaches, MOST_REACHES);
            take(Tokens.REACH);
            take(Tokens.TO);
            if (kind == Tokens.SEA_WORD) {
                take(Tokens.SEA_WORD);
                put(rivers.target, reach, SEA);
            } else {
                put(rivers.target, reach, takeValue(0, MOST_REACHES - 1));
            }
            put(rivers.takes, reach, takeNumber(Tokens.TAKES, 1, 5));
            put(rivers.low, reach, takeNumber(Tokens.LOW, 0, MOST_LOW));
            rivers.reaches = reach + 1;
        }

        private void readJoin() {
            int join = claim(rivers.joins, MOST_JOINS);
            put(rivers.joinFrom, join, takeNumber(Tokens.JOIN, 0, rivers.reaches - 1));
            put(rivers.joinTo, join, takeNumber(Tokens.TO, 0, rivers.reaches - 1));
            int each = takeNumber(Tokens.EACH, 1, MOST_EACH);
            put(rivers.joinEach, join, each);
            put(rivers.joinAt, join, takeNumber(Tokens.AT, 0, each - 1));
            rivers.joins = join + 1;
        }

        private void readRain() {
            int rain = claim(rivers.rains, MOST_RAINS);
            put(rivers.rainMuch, rain, takeNumber(Tokens.RAIN, 1, MOST_RAIN));
            put(rivers.rainStep, rain, takeNumber(Tokens.AT, 0, LAST_STEP));
            rivers.rains = rain + 1;
        }

        /** The number of the next one of a sort, whose word is the TOKEN now. */
        private int claim(int there, int most) {
            if (there >= most) {
                blame(FAULT_MANY);
            }
            return Math.min(there, most - 1);
        }

        private int takeNumber(int word, int least, int most) {
            take(word);
            return takeValue(least, most);
        }

        private int takeValue(int least, int most) {
            int value = pick(tokens.values, next);
            if (kind == Tokens.NUMBER && (value < least || value > most)) {
                blame(FAULT_NUMBER);
            }
            take(Tokens.NUMBER);
            return value;
        }

        private void take(int wanted) {
            if (kind != wanted) {
                blame(FAULT_TOKEN);
            }
            if (fault == 0) {
                next++;
                kind = pick(tokens.kinds, next);
            }
        }

        private void blame(int what) {
            if (fault == 0) {
                fault = what;
            }
        }
    }
}
