import java.math.BigInteger;

/** Term VIII and promises 41, 63, 64, 69 and 70: RAIN by chance, and DAYS drawn. */
final class EdgesOfChance {
    private static final int SEA = Samples.SEA;
    private static final int[] NO_STEPS = {-1, 15, 60, Integer.MAX_VALUE, Integer.MIN_VALUE};
    private static final int[] NO_SEEDS = {-1, 2000000001, Integer.MAX_VALUE, Integer.MIN_VALUE};
    private static final int[] SEEDS = {0, 1, 2, 77, 1000003, 1999999999, 2000000000};

    /** LEVEL 1 at STEP 0, then 0; with 3 in ten 2 more. */
    private static final String DROPS = Samples.rivers(1, 3, 2);
    /** LEVEL is 1 at a STEP just if it rains so then; five such STEPS to 59, and it is in the sea. */
    private static final String FIVE = Samples.rivers(0, 1, 1) + Samples.reach(SEA, 5, 1);

    private EdgesOfChance() {
    }

    static void run() {
        byChance();
        lowestTerms();
        draws();
        day();
        mean();
        meanNone();
        chance();
        chanceNone();
        risk();
        riskNone();
        drawn();
        drawnNone();
        luck();
        luckNone();
    }

    private static void chanceIs(QuotedRiver x, int step, int n, long above, long below) {
        Due.is("chance " + step + " " + n, x.chance(step, n, 0), above);
        Due.is("chance below " + step + " " + n, x.chance(step, n, 1), below);
    }

    private static void meanIs(QuotedRiver x, int step, long above, long below) {
        Due.is("mean " + step, x.mean(step, 0), above);
        Due.is("mean below " + step, x.mean(step, 1), below);
    }

    // Term VIII.

    private static void byChance() {
        Sentences.term("VIII", "RAIN by chance: at each STEP from 1 on LEVEL is swell more with odds in ten, by itself "
                + "(besides those told).");
        QuotedRiver x = Due.told(DROPS + Samples.rain(4, 2));
        // At 0 none; at 1 it is 0 or 2; at 2 it is 4 or 6 from 0, 5 or 7 from 2.
        chanceIs(x, 0, 1, 1, 1);
        chanceIs(x, 0, 2, 0, 1);
        chanceIs(x, 1, 1, 3, 10);
        chanceIs(x, 1, 2, 3, 10);
        chanceIs(x, 1, 3, 0, 1);
        chanceIs(x, 2, 4, 1, 1);
        chanceIs(x, 2, 5, 51, 100);
        chanceIs(x, 2, 6, 3, 10);
        chanceIs(x, 2, 7, 9, 100);
        chanceIs(x, 2, 8, 0, 1);
        // Odds 0 and odds 10 leave nothing to chance.
        chanceIs(Due.told(Samples.rivers(0, 0, 9)), 14, 1, 0, 1);
        QuotedRiver sure = Due.told(Samples.rivers(0, 10, 9));
        chanceIs(sure, 0, 1, 0, 1);
        chanceIs(sure, 1, 9, 1, 1);
        chanceIs(sure, 1, 10, 0, 1);
        chanceIs(sure, 2, 17, 1, 1);
        chanceIs(sure, 2, 18, 0, 1);
        Due.is("as told without", sure.level(1), 0);
    }

    private static void lowestTerms() {
        Sentences.term("VIII", "FRACTIONS are told in lowest terms (0 / 1).");
        QuotedRiver half = Due.told(Samples.rivers(0, 5, 2));
        chanceIs(half, 1, 1, 1, 2);
        chanceIs(half, 1, 3, 0, 1);
        chanceIs(half, 1, 0, 1, 1);
        meanIs(half, 1, 1, 1);
        meanIs(half, 0, 0, 1);
        meanIs(Due.told(Samples.rivers(0, 4, 1)), 14, 2, 5);
        meanIs(Due.told(Samples.rivers(0, 0, 1)), 14, 0, 1);
        // The greatest there is below: ten to the power of 14, of which nothing is shared.
        chanceIs(Due.told(Samples.rivers(0, 1, 9)), 14, 99, weightFromNinetyNine(), 100000000000000L);
    }

    /** Out of ten to the power of 14, for LEVEL 0, odds 1 and swell 9. */
    private static long weightFromNinetyNine() {
        long[] weights = new long[200];
        weights[0] = 1;
        for (int step = 1; step <= 14; step++) {
            long[] next = new long[200];
            for (int level = 0; level < 190; level++) {
                next[Math.max(0, level - 1)] += 9 * weights[level];
                next[Math.max(0, level - 1) + 9] += weights[level];
            }
            weights = next;
        }
        long sum = 0;
        for (int level = 99; level < 200; level++) {
            sum += weights[level];
        }
        return sum;
    }

    private static void draws() {
        Sentences.term("VIII", "DRAWS: x becomes (1103515245 x + 12345) modulo 2,147,483,648 (at first it is the seed); "
                + "a draw: x / 65536, cut, modulo 10.");
        // From 0: 12345, a draw of 0; then 1406932606, of which 65536 is 21468 times in it, a draw of 8; and so on.
        QuotedRiver x = Due.told(Samples.rivers(0, 1, 1));
        QuotedRiver y = Due.told(Samples.rivers(0, 9, 1));
        for (int seed : SEEDS) {
            Due.is("odds 1, seed " + seed, x.drawn(seed, 1), rains(seed, 1));
            Due.is("odds 9, seed " + seed, y.drawn(seed, 1), rains(seed, 9));
        }
    }

    /** At which of STEPS 1 .. 60 it rains by chance, by whole numbers of any size. */
    private static boolean[] rainsAt(long seed, int odds) {
        boolean[] rains = new boolean[61];
        BigInteger x = BigInteger.valueOf(seed);
        for (int step = 1; step <= 60; step++) {
            x = x.multiply(BigInteger.valueOf(1103515245)).add(BigInteger.valueOf(12345)).mod(BigInteger.ONE.shiftLeft(31));
            rains[step] = x.shiftRight(16).mod(BigInteger.TEN).intValue() < odds;
        }
        return rains;
    }

    private static int rains(long seed, int odds) {
        int sum = 0;
        for (boolean rains : rainsAt(seed, odds)) {
            sum += rains ? 1 : 0;
        }
        return sum;
    }

    private static void day() {
        Sentences.term("VIII", "DAY drawn: STEP by STEP from 1 to 60 a draw: below odds it rains so.");
        Due.is("never below 0", Due.told(Samples.rivers(0, 0, 9)).drawn(5, 1), 0);
        Due.is("always below 10: 60 STEPS", Due.told(Samples.rivers(0, 10, 9)).drawn(5, 1), 60);
        Due.is("9 more, 1 less each: 8 times 59 and 9", Due.told(Samples.rivers(0, 10, 9)).drawn(5, 0), 481);
        Due.is("STEP 0 falls, too", Due.told(Samples.rivers(60, 10, 1)).drawn(5, 0), 60);
        // With swell 1 from 0 on LEVEL of STEP 60 is just what it rains at 60.
        for (int odds = 1; odds <= 9; odds++) {
            QuotedRiver x = Due.told(Samples.rivers(0, odds, 1));
            for (int seed : SEEDS) {
                Due.is("at 60", x.drawn(seed, 0), rainsAt(seed, odds)[60] ? 1 : 0);
                Due.is("rains", x.drawn(seed, 1), rains(seed, odds));
            }
        }
    }

    // Promises.

    private static void mean() {
        Sentences.promise(41, "The mean LEVEL of a STEP (0 .. 14; VIII), above (what 0), below (1).");
        QuotedRiver x = Due.told(DROPS);
        meanIs(x, 0, 1, 1);
        // 2 by 3 in ten; then 3 by 9, 1 by 21, 2 by 21, 0 by 49 in a hundred.
        meanIs(x, 1, 3, 5);
        meanIs(x, 2, 9, 10);
        // Never as low as 0: 60 less 14, and 14 times 2 by 3 in ten.
        meanIs(Due.told(Samples.rivers(60, 3, 2)), 14, 272, 5);
        QuotedRiver poured = Due.told(DROPS);
        Due.is("pours", poured.pours(1, 5), 5);
        meanIs(poured, 1, 28, 5);
    }

    private static void meanNone() {
        Sentences.promise(41, "-2: there are none such, no RIVERS.");
        QuotedRiver x = Due.told(DROPS);
        for (int step : NO_STEPS) {
            Due.is("mean " + step, x.mean(step, 0), -2);
        }
        for (int what : new int[] {-1, 2, Integer.MAX_VALUE, Integer.MIN_VALUE}) {
            Due.is("mean what " + what, x.mean(0, what), -2);
        }
        Due.is("no RIVERS", new QuotedRiver().mean(0, 0), -2);
    }

    private static void chance() {
        Sentences.promise(63, "RAIN (VIII): the chance that LEVEL of a STEP (0 .. 14) is n (0 .. 99) at least, above "
                + "(what 0), below (1).");
        QuotedRiver x = Due.told(DROPS);
        chanceIs(x, 0, 0, 1, 1);
        chanceIs(x, 1, 2, 3, 10);
        chanceIs(x, 2, 2, 3, 10);
        chanceIs(x, 2, 3, 9, 100);
        chanceIs(x, 14, 0, 1, 1);
        // At 14 it is 15, if it always rains: 3 to the power of 14 of ten to that.
        chanceIs(x, 14, 15, 4782969, 100000000000000L);
        chanceIs(x, 14, 16, 0, 1);
        chanceIs(Due.told(Samples.rivers(60) + Samples.rain(30, 0) + Samples.rain(9, 0)), 0, 99, 1, 1);
        chanceIs(Due.told(Samples.rivers(60) + Samples.rain(30, 0) + Samples.rain(8, 0)), 0, 99, 0, 1);
        QuotedRiver poured = Due.told(DROPS);
        Due.is("pours", poured.pours(1, 5), 5);
        chanceIs(poured, 1, 5, 1, 1);
        chanceIs(poured, 1, 7, 3, 10);
        chanceIs(poured, 1, 8, 0, 1);
    }

    private static void chanceNone() {
        Sentences.promise(63, "-2: there are none such, no RIVERS.");
        QuotedRiver x = Due.told(DROPS);
        for (int step : NO_STEPS) {
            Due.is("chance " + step, x.chance(step, 0, 0), -2);
        }
        for (int n : new int[] {-1, 100, Integer.MAX_VALUE, Integer.MIN_VALUE}) {
            Due.is("chance n " + n, x.chance(0, n, 0), -2);
            Due.is("chance below n " + n, x.chance(0, n, 1), -2);
        }
        for (int what : new int[] {-1, 2, Integer.MAX_VALUE, Integer.MIN_VALUE}) {
            Due.is("chance what " + what, x.chance(0, 0, what), -2);
        }
        Due.is("no RIVERS", new QuotedRiver().chance(0, 0, 0), -2);
    }

    private static void risk() {
        Sentences.promise(64, "The first STEP (0 .. 14) at which a REACH STANDS with p (0 .. 100) in a hundred at least.");
        // LEVEL below 1: 0 in a hundred at 0, 70 at 1, 49 at 2; below 2: at once.
        QuotedRiver x = Due.told(DROPS + Samples.reach(SEA, 1, 1) + Samples.reach(SEA, 1, 2));
        Due.is("0 in a hundred", x.risk(0, 0), 0);
        Due.is("1", x.risk(0, 1), 1);
        Due.is("70, just so", x.risk(0, 70), 1);
        Due.is("100 at once", x.risk(1, 100), 0);
        Due.is("0 at once", x.risk(1, 0), 0);
        Due.is("at 14", Due.told(Samples.rivers(14) + Samples.reach(SEA, 1, 1)).risk(0, 100), 14);
        Due.is("at 1", Due.told(Samples.rivers(1) + Samples.reach(SEA, 1, 1)).risk(0, 1), 1);
        // 2, 1 and 0 if it rains neither at 1 nor at 2: by 1 in ten each.
        QuotedRiver y = Due.told(Samples.rivers(2, 9, 9) + Samples.reach(SEA, 1, 1));
        Due.is("1 in a hundred at 2", y.risk(0, 1), 2);
        Due.is("2 in a hundred never", y.risk(0, 2), -1);
        QuotedRiver poured = Due.told(Samples.rivers(1) + Samples.reach(SEA, 1, 1));
        Due.is("pours", poured.pours(1, 5), 5);
        Due.is("acts as now", poured.risk(0, 100), 6);
    }

    private static void riskNone() {
        Sentences.promise(64, "NONE: at none;");
        QuotedRiver x = Due.told(DROPS + Samples.reach(SEA, 1, 1) + Samples.reach(SEA));
        Due.is("71", x.risk(0, 71), -1);
        Due.is("100", x.risk(0, 100), -1);
        // 3, 2, 1 and 0 if it rains at none of three STEPS: by 729 in a thousand, and never by more.
        QuotedRiver three = Due.told(Samples.rivers(3, 1, 9) + Samples.reach(SEA, 1, 1));
        Due.is("72 of 72.9", three.risk(0, 72), 3);
        Due.is("73 of 72.9", three.risk(0, 73), -1);
        Due.is("low 0", x.risk(1, 1), -1);
        Due.is("low 0, by 0 in a hundred", x.risk(1, 0), 0);
        Due.is("at 15", Due.told(Samples.rivers(15) + Samples.reach(SEA, 1, 1)).risk(0, 1), -1);
        Sentences.promise(64, "-2: there are none such.");
        for (int reach : new int[] {-1, 2, 10, Integer.MAX_VALUE, Integer.MIN_VALUE}) {
            Due.is("risk " + reach, x.risk(reach, 50), -2);
        }
        for (int p : new int[] {-1, 101, Integer.MAX_VALUE, Integer.MIN_VALUE}) {
            Due.is("risk by " + p, x.risk(0, p), -2);
        }
        Due.is("no RIVERS", new QuotedRiver().risk(0, 0), -2);
    }

    private static void drawn() {
        Sentences.promise(69, "DAY drawn (VIII) from a seed (0 .. 2,000,000,000), what 0: LEVEL of STEP 60, "
                + "1: how often it rains so.");
        QuotedRiver x = Due.told(Samples.rivers(9, 5, 9) + Samples.rain(4, 20));
        for (int seed : SEEDS) {
            int level = 9;
            boolean[] rains = rainsAt(seed, 5);
            for (int step = 1; step <= 60; step++) {
                level = Math.max(0, level - 1) + (step == 20 ? 4 : 0) + (rains[step] ? 9 : 0);
            }
            Due.is("drawn " + seed, x.drawn(seed, 0), level);
            Due.is("drawn often " + seed, x.drawn(seed, 1), rains(seed, 5));
        }
        Due.is("as told it stays", x.level(60), 0);
        Due.is("no act", x.count(6), 0);
        Due.is("pours", x.pours(60, 30), 30);
        Due.is("acts as now", x.drawn(0, 0) >= 30 ? 1 : 0, 1);
        Due.is("what was poured is not so", x.drawn(0, 1), rains(0, 5));
    }

    private static void drawnNone() {
        Sentences.promise(69, "-2: there are none such, no RIVERS.");
        QuotedRiver x = Due.told(DROPS);
        for (int seed : NO_SEEDS) {
            Due.is("drawn " + seed, x.drawn(seed, 0), -2);
        }
        for (int what : new int[] {-1, 2, Integer.MAX_VALUE, Integer.MIN_VALUE}) {
            Due.is("drawn what " + what, x.drawn(0, what), -2);
        }
        Due.is("no RIVERS", new QuotedRiver().drawn(0, 0), -2);
    }

    private static void luck() {
        Sentences.promise(70, "Of n (1 .. 20) such from seeds, the seed and 1, .., in how many a STICK put in a REACH at "
                + "STEP 0 comes to the sea.");
        QuotedRiver x = Due.told(FIVE);
        for (int seed : SEEDS) {
            int lucky = 0;
            for (int n = 1; n <= 20; n++) {
                lucky += fiveBy59(seed + n - 1L) ? 1 : 0;
                Due.is("luck " + seed + " " + n, x.luck(seed, n, 0), lucky);
            }
        }
        Due.is("as told it does not", x.sea(0, 0), -1);
        // LEVEL is 1 at STEP 0 alone: put in behind it, it would stay.
        QuotedRiver once = Due.told(Samples.rivers(1) + Samples.reach(0) + Samples.reach(SEA, 1, 1));
        Due.is("at STEP 0", once.luck(3, 20, 1), 20);
        Due.is("the other REACH", once.luck(3, 20, 0), 0);
        QuotedRiver shut = Due.told(Samples.HIGH + Samples.reach(SEA) + Samples.join(0, 0, 1, 0));
        Due.is("by the JOIN", shut.luck(0, 20, 0), 0);
        Due.is("close", shut.close(0, 1), 0);
        Due.is("acts as now", shut.luck(0, 20, 0), 20);
    }

    private static boolean fiveBy59(long seed) {
        boolean[] rains = rainsAt(seed, 1);
        int sum = 0;
        for (int step = 1; step <= 59; step++) {
            sum += rains[step] ? 1 : 0;
        }
        return sum >= 5;
    }

    private static void luckNone() {
        Sentences.promise(70, "-2: there are none such.");
        QuotedRiver x = Due.told(FIVE);
        for (int seed : NO_SEEDS) {
            Due.is("luck " + seed, x.luck(seed, 1, 0), -2);
        }
        for (int n : new int[] {0, -1, 21, Integer.MAX_VALUE, Integer.MIN_VALUE}) {
            Due.is("luck of " + n, x.luck(0, n, 0), -2);
        }
        for (int reach : new int[] {-1, 1, 10, Integer.MAX_VALUE, Integer.MIN_VALUE}) {
            Due.is("luck in " + reach, x.luck(0, 1, reach), -2);
        }
        Due.is("no RIVERS", new QuotedRiver().luck(0, 1, 0), -2);
    }
}
