/** Term II and promises 9 to 12, 24, 27 and 32 to 34: LEVEL and what STANDS. */
final class EdgesOfLevel {
    private static final int[] NO_STEPS = {-1, 61, Integer.MAX_VALUE, Integer.MIN_VALUE};
    /** LEVEL 1 at STEP 0, 0 behind it; each of ten REACHES but 0 is low at some STEP. */
    private static final String TEN = Samples.rivers(1) + Samples.reach(Samples.SEA, 1, 0)
            + Samples.reach(Samples.SEA, 1, 1).repeat(8) + Samples.reach(Samples.SEA, 1, 20);

    private EdgesOfLevel() {
    }

    static void run() {
        levelAtFirst();
        levelFalls();
        levelOfRain();
        stand();
        level();
        stands();
        dry();
        drought();
        idle();
        flows();
        rained();
        lowest();
        deeper();
    }

    // Term II.

    private static void levelAtFirst() {
        Sentences.term("II", "LEVEL of a STEP: at STEP 0 as told,");
        for (int level : new int[] {0, 1, 59, 60}) {
            Due.is("level 0", Due.told(Samples.rivers(level)).level(0), level);
        }
    }

    private static void levelFalls() {
        Sentences.term("II", "at each behind it 1 less than at the STEP ahead (0 at least);");
        QuotedRiver high = Due.told(Samples.HIGH);
        QuotedRiver two = Due.told(Samples.rivers(2));
        QuotedRiver empty = Due.told(Samples.EMPTY);
        for (int step = 0; step <= 60; step++) {
            Due.is("of 60 at " + step, high.level(step), 60 - step);
            Due.is("of 2 at " + step, two.level(step), step == 0 ? 2 : step == 1 ? 1 : 0);
            Due.is("of 0 at " + step, empty.level(step), 0);
        }
    }

    private static void levelOfRain() {
        Sentences.term("II", "and all rains of that STEP more.");
        QuotedRiver x = Due.told(Samples.rivers(1) + Samples.rain(3, 0) + Samples.rain(30, 60) + Samples.rain(2, 0)
                + Samples.rain(1, 10) + Samples.rain(5, 60));
        // 6 at 0, 0 at 6 and behind it; 1 at 10; 35 at 60.
        int[][] due = {{0, 6}, {1, 5}, {5, 1}, {6, 0}, {9, 0}, {10, 1}, {11, 0}, {59, 0}, {60, 35}};
        for (int[] row : due) {
            Due.is("level " + row[0], x.level(row[0]), row[1]);
        }
        // It is 0 at least ahead of the rain, not behind it.
        Due.is("rain on nothing", Due.told(Samples.EMPTY + Samples.rain(1, 1)).level(1), 1);
        Due.is("rain on 1", Due.told(Samples.rivers(1) + Samples.rain(1, 1)).level(1), 1);
        Due.is("rain on 2", Due.told(Samples.rivers(2) + Samples.rain(1, 1)).level(1), 2);
    }

    private static void stand() {
        Sentences.term("II", "A REACH STANDS at a STEP, if LEVEL is below its low.");
        QuotedRiver x = Due.told(Samples.rivers(20) + Samples.reach(Samples.SEA, 1, 20)
                + Samples.reach(Samples.SEA, 1, 19) + Samples.reach(Samples.SEA, 1, 1) + Samples.reach(Samples.SEA));
        int[][] due = {{0, 0}, {1, 1}, {2, 3}, {19, 3}, {20, 7}, {60, 7}};
        for (int[] row : due) {
            Due.is("stands " + row[0], x.stands(row[0]), row[1]);
        }
        Due.is("carried on at its low", x.sea(0, 0), 1);
        Due.is("not below it", x.sea(0, 1), -1);
    }

    // Promises.

    private static void level() {
        Sentences.promise(9, "LEVEL (II) of a STEP (0 .. 60), acts as now.");
        QuotedRiver x = Due.told(Samples.rivers(5));
        Due.is("level 0", x.level(0), 5);
        Due.is("level 60", x.level(60), 0);
        Due.is("pours", x.pours(0, 7), 12);
        Due.is("pours", x.pours(60, 9), 9);
        Due.is("level 0", x.level(0), 12);
        Due.is("level 11", x.level(11), 1);
        Due.is("level 60", x.level(60), 9);
        Due.is("undo", x.undo(), 1);
        Due.is("level 60", x.level(60), 0);
        Due.is("level 0", x.level(0), 12);
        Sentences.promise(9, "-2: there is none such, no RIVERS.");
        for (int step : NO_STEPS) {
            Due.is("level " + step, x.level(step), -2);
        }
        Due.is("no RIVERS", new QuotedRiver().level(0), -2);
    }

    private static void stands() {
        Sentences.promise(10, "REACHES that STAND at a STEP, as bits.");
        QuotedRiver x = Due.told(TEN);
        Due.is("stands 0", x.stands(0), 512);
        Due.is("stands 1", x.stands(1), 1022);
        Due.is("stands 60", x.stands(60), 1022);
        Due.is("of none", Due.told(Samples.EMPTY).stands(0), 0);
        Sentences.promise(10, "-2 likewise.");
        for (int step : NO_STEPS) {
            Due.is("stands " + step, x.stands(step), -2);
        }
        Due.is("no RIVERS", new QuotedRiver().stands(0), -2);
    }

    private static void dry() {
        Sentences.promise(11, "The first STEP at which a REACH STANDS.");
        QuotedRiver x = Due.told(TEN);
        Due.is("at once", x.dry(9), 0);
        Due.is("at 1", x.dry(1), 1);
        Due.is("at 60", Due.told(Samples.HIGH + Samples.reach(Samples.SEA, 1, 1)).dry(0), 60);
        // Low at 3 and 4 and again from 9 on.
        Due.is("at 3", Due.told(Samples.rivers(3) + Samples.reach(Samples.SEA, 1, 1) + Samples.rain(4, 5)).dry(0), 3);
        Sentences.promise(11, "NONE: at none;");
        Due.is("low 0", x.dry(0), -1);
        Due.is("above it to 60", Due.told(Samples.HIGH + Samples.reach(Samples.SEA, 1, 1) + Samples.rain(1, 60)).dry(0),
                -1);
        Sentences.promise(11, "-2: there is none such.");
        noReach(x, 10);
    }

    private static void noReach(QuotedRiver x, int reaches) {
        for (int reach : new int[] {-1, reaches, 61, Integer.MAX_VALUE, Integer.MIN_VALUE}) {
            Due.is("dry " + reach, x.dry(reach), -2);
            Due.is("drought " + reach, x.drought(reach), -2);
            Due.is("idle " + reach, x.idle(reach), -2);
        }
        Due.is("no REACHES, dry", Due.told(Samples.EMPTY).dry(0), -2);
        Due.is("no REACHES, drought", Due.told(Samples.EMPTY).drought(0), -2);
        Due.is("no REACHES, idle", Due.told(Samples.EMPTY).idle(0), -2);
        Due.is("no RIVERS, dry", new QuotedRiver().dry(0), -2);
        Due.is("no RIVERS, drought", new QuotedRiver().drought(0), -2);
        Due.is("no RIVERS, idle", new QuotedRiver().idle(0), -2);
    }

    private static void drought() {
        Sentences.promise(12, "The most STEPS one behind the other at which it STANDS.");
        String low = Samples.reach(Samples.SEA, 1, 1);
        QuotedRiver x = Due.told(TEN);
        Due.is("none", x.drought(0), 0);
        Due.is("all but the first", x.drought(1), 60);
        Due.is("all", x.drought(9), 61);
        Due.is("the last alone", Due.told(Samples.HIGH + low).drought(0), 1);
        Due.is("the first alone", Due.told(Samples.EMPTY + low + Samples.rain(30, 1).repeat(2)).drought(0), 1);
        // 0 .. 9, then 30 STEPS, then 40 .. 49, 8 STEPS, then 58 .. 60.
        Due.is("the first ten", Due.told(Samples.EMPTY + low + Samples.rain(30, 10) + Samples.rain(8, 50)).drought(0), 10);
        // 0 .. 9, then 29 STEPS, then 39 .. 49; so 11, and 21 if they were counted together.
        Due.is("the second", Due.told(Samples.EMPTY + low + Samples.rain(29, 10) + Samples.rain(11, 50)).drought(0), 11);
        // 0 .. 4, then 20 STEPS to 24, 25 .. 29, then 25 STEPS to 54, 55 .. 60: the last six.
        Due.is("the last", Due.told(Samples.EMPTY + low + Samples.rain(20, 5) + Samples.rain(25, 30)).drought(0), 6);
        Sentences.promise(12, "-2 likewise.");
        noReach(x, 10);
    }

    private static void idle() {
        Sentences.promise(24, "At how many STEPS (0 .. 60) a REACH STANDS.");
        String low = Samples.reach(Samples.SEA, 1, 1);
        QuotedRiver x = Due.told(TEN);
        Due.is("none", x.idle(0), 0);
        Due.is("all but the first", x.idle(1), 60);
        Due.is("all", x.idle(9), 61);
        Due.is("the last alone", Due.told(Samples.HIGH + low).idle(0), 1);
        Due.is("the first alone", Due.told(Samples.EMPTY + low + Samples.rain(30, 1).repeat(2)).idle(0), 1);
        Due.is("10, 10 and 3", Due.told(Samples.EMPTY + low + Samples.rain(30, 10) + Samples.rain(8, 50)).idle(0), 23);
        Sentences.promise(24, "-2: there is none such.");
        noReach(x, 10);
    }

    private static void flows() {
        Sentences.promise(27, "REACHES that do not STAND at a STEP, as bits.");
        QuotedRiver x = Due.told(TEN);
        Due.is("flows 0", x.flows(0), 511);
        Due.is("flows 1", x.flows(1), 1);
        Due.is("flows 60", x.flows(60), 1);
        Due.is("all ten", Due.told(Samples.HIGH + Samples.reach(9).repeat(10)).flows(60), 1023);
        Due.is("of none", Due.told(Samples.HIGH).flows(0), 0);
        Sentences.promise(27, "-2: there is none such, no RIVERS.");
        for (int step : NO_STEPS) {
            Due.is("flows " + step, x.flows(step), -2);
        }
        Due.is("no RIVERS", new QuotedRiver().flows(0), -2);
    }

    private static void rained() {
        Sentences.promise(32, "All rains of STEPS 0 to one, together.");
        QuotedRiver x = Due.told(Samples.rivers(7) + Samples.rain(3, 10) + Samples.rain(1, 0) + Samples.rain(4, 10)
                + Samples.rain(9, 60));
        int[][] due = {{0, 1}, {9, 1}, {10, 8}, {11, 8}, {59, 8}, {60, 17}};
        for (int[] row : due) {
            Due.is("rained " + row[0], x.rained(row[0]), row[1]);
        }
        Due.is("none", Due.told(Samples.rivers(7)).rained(60), 0);
        // What is poured besides is rain, too.
        Due.is("pours", x.pours(10, 5), 12);
        Due.is("rained 9", x.rained(9), 1);
        Due.is("rained 10", x.rained(10), 13);
        Due.is("undo", x.undo(), 0);
        Due.is("rained 10", x.rained(10), 8);
        Sentences.promise(32, "-2: there is none such, no RIVERS.");
        for (int step : NO_STEPS) {
            Due.is("rained " + step, x.rained(step), -2);
        }
        Due.is("no RIVERS", new QuotedRiver().rained(0), -2);
    }

    private static void lowest() {
        Sentences.promise(33, "The STEP (0 .. 60) of the least LEVEL, the first of several.");
        Due.is("the last", Due.told(Samples.HIGH).lowest(), 60);
        Due.is("the first", Due.told(Samples.EMPTY).lowest(), 0);
        Due.is("the second", Due.told(Samples.rivers(1)).lowest(), 1);
        Due.is("of many", Due.told(Samples.rivers(5)).lowest(), 5);
        // 60 .. 31 at 29, 60 at 30 .. 30 at 60.
        Due.is("at 60", Due.told(Samples.HIGH + Samples.rain(30, 30)).lowest(), 60);
        // 60 .. 30 at 30, 59 at 31 .. 30 at 60: the first of two.
        Due.is("of two", Due.told(Samples.HIGH + Samples.rain(30, 31)).lowest(), 30);
        Due.is("the first of two ends", Due.told(Samples.EMPTY + Samples.rain(30, 1) + Samples.rain(29, 1)).lowest(), 0);
        QuotedRiver x = Due.told(Samples.rivers(5));
        Due.is("pours", x.pours(2, 4), 7);
        Due.is("acts as now", x.lowest(), 9);
        Sentences.promise(33, "-2: there are no RIVERS.");
        Due.is("no RIVERS", new QuotedRiver().lowest(), -2);
    }

    private static void deeper() {
        Sentences.promise(34, "The greatest low (0 .. 20) by which a REACH never STANDS.");
        // The least LEVEL is that of STEP 60: what it rained, at 60.
        int[][] due = {{0, 0}, {1, 1}, {19, 19}, {20, 20}, {21, 20}, {30, 20}};
        for (int[] row : due) {
            String text = Samples.HIGH + Samples.reach(Samples.SEA, 1, row[1]);
            QuotedRiver x = Due.told(row[0] == 0 ? text : text + Samples.rain(row[0], 40));
            Due.is("deeper of " + row[0], x.deeper(), row[1]);
            Due.is("by it", x.dry(0), -1);
            Due.is("deepen", x.deepen(0, Math.min(20, row[1] + 1)), row[1]);
            Due.is("by one more", x.dry(0), row[0] < 20 ? 60 : -1);
            Due.is("whatever low it has", x.deeper(), row[1]);
        }
        Due.is("without REACHES", Due.told(Samples.HIGH).deeper(), 0);
        QuotedRiver x = Due.told(Samples.HIGH);
        Due.is("pours", x.pours(60, 4), 4);
        Due.is("the STEP ahead is lower", x.deeper(), 1);
        Sentences.promise(34, "-2 likewise.");
        Due.is("no RIVERS", new QuotedRiver().deeper(), -2);
    }
}
