/** Promises 9 to 12, 24, 27 and 32 to 34: LEVEL and what STANDS. */
public final class LevelTest {
    public static void main(String[] args) {
        level();
        standing();
        droughts();
        rained();
        lowestAndDeeper();
        withActs();
        withoutReaches();
        noneSuch();
        Due.end();
    }

    private static void level() {
        QuotedRiver x = Due.told(Samples.FOUR);
        int[] due = {7, 6, 5, 8, 7, 6, 5, 4, 3, 2, 1, 0, 0};
        for (int step = 0; step <= 60; step++) {
            Due.is("level " + step, x.level(step), step < due.length ? due[step] : 0);
        }
        QuotedRiver y = Due.told("rivers level 0 odds 9 swell 9;rain 3 at 60;rain 2 at 60;rain 1 at 2;");
        Due.is("level 0", y.level(0), 0);
        Due.is("level 1", y.level(1), 0);
        Due.is("level 2", y.level(2), 1);
        Due.is("level 3", y.level(3), 0);
        Due.is("level 59", y.level(59), 0);
        Due.is("level 60", y.level(60), 5);
    }

    private static void standing() {
        QuotedRiver x = Due.told(Samples.FOUR);
        int[][] due = {{0, 0}, {7, 0}, {8, 4}, {9, 5}, {10, 13}, {60, 13}};
        for (int[] row : due) {
            Due.is("stands " + row[0], x.stands(row[0]), row[1]);
            Due.is("flows " + row[0], x.flows(row[0]), 15 - row[1]);
        }
        int[] dry = {9, -1, 8, 10};
        int[] idle = {52, 0, 53, 51};
        for (int reach = 0; reach < 4; reach++) {
            Due.is("dry " + reach, x.dry(reach), dry[reach]);
            Due.is("idle " + reach, x.idle(reach), idle[reach]);
            Due.is("drought " + reach, x.drought(reach), idle[reach]);
        }
        // At a LEVEL that is just its low a REACH does not STAND; low 20 and ten REACHES are the most.
        QuotedRiver y = Due.told("rivers level 20 odds 0 swell 1;" + "reach to sea takes 1 low 20;".repeat(10));
        Due.is("stands 0", y.stands(0), 0);
        Due.is("flows 0", y.flows(0), 1023);
        Due.is("stands 1", y.stands(1), 1023);
        Due.is("flows 1", y.flows(1), 0);
        Due.is("dry 9", y.dry(9), 1);
    }

    private static void droughts() {
        QuotedRiver x = Due.told(Samples.GAPS);
        Due.is("dry", x.dry(0), 0);
        Due.is("drought", x.drought(0), 44);
        Due.is("idle", x.idle(0), 49);
        QuotedRiver y = Due.told("rivers level 2 odds 0 swell 1;reach to sea takes 1 low 1;rain 30 at 5;rain 9 at 49;");
        // 2 1 0 0 0 30 .. 0 at 35 .. 48, 9 .. 1 at 57, 0 at 58 .. 60.
        Due.is("dry", y.dry(0), 2);
        Due.is("drought", y.drought(0), 14);
        Due.is("idle", y.idle(0), 20);
        QuotedRiver z = Due.told("rivers level 0 odds 0 swell 1;reach to sea takes 1 low 1;rain 9 at 0;");
        Due.is("drought to the end", z.drought(0), 52);
        QuotedRiver late = Due.told("rivers level 60 odds 0 swell 1;reach to sea takes 1 low 1;");
        Due.is("dry at 60", late.dry(0), 60);
        Due.is("idle at 60", late.idle(0), 1);
        Due.is("drought at 60", late.drought(0), 1);
        QuotedRiver all = Due.told("rivers level 19 odds 0 swell 1;reach to sea takes 1 low 20;");
        Due.is("drought of all", all.drought(0), 61);
        Due.is("idle of all", all.idle(0), 61);
    }

    private static void rained() {
        QuotedRiver x = Due.told(Samples.FOUR);
        int[][] due = {{0, 2}, {1, 2}, {2, 2}, {3, 6}, {4, 6}, {60, 6}};
        for (int[] row : due) {
            Due.is("rained " + row[0], x.rained(row[0]), row[1]);
        }
        Due.is("pours", x.pours(60, 30), 30);
        Due.is("rained 59", x.rained(59), 6);
        Due.is("rained 60", x.rained(60), 36);
    }

    private static void lowestAndDeeper() {
        QuotedRiver x = Due.told(Samples.FOUR);
        Due.is("lowest", x.lowest(), 11);
        Due.is("deeper", x.deeper(), 0);
        QuotedRiver gaps = Due.told(Samples.GAPS);
        Due.is("lowest", gaps.lowest(), 1);
        Due.is("lowest", Due.told("rivers level 60 odds 0 swell 1;").lowest(), 60);
        Due.is("lowest", Due.told("rivers level 60 odds 0 swell 1;rain 1 at 60;").lowest(), 59);
        Due.is("lowest", Due.told("rivers level 0 odds 0 swell 1;").lowest(), 0);
        // 60 .. 52 at 8, 70 at 9 .. 19 at 60.
        Due.is("deeper", Due.told("rivers level 60 odds 0 swell 1;rain 19 at 9;").deeper(), 19);
        Due.is("deeper", Due.told("rivers level 60 odds 0 swell 1;rain 20 at 9;").deeper(), 20);
        Due.is("deeper", Due.told("rivers level 60 odds 0 swell 1;rain 21 at 9;").deeper(), 20);
    }

    private static void withActs() {
        QuotedRiver x = Due.told(Samples.FOUR);
        Due.is("pours", x.pours(9, 2), 4);
        Due.is("level 8", x.level(8), 3);
        Due.is("level 9", x.level(9), 4);
        Due.is("level 10", x.level(10), 3);
        Due.is("stands 9", x.stands(9), 0);
        Due.is("dry 0", x.dry(0), 11);
        Due.is("idle 0", x.idle(0), 50);
        Due.is("lowest", x.lowest(), 13);
        for (int i = 0; i < 29; i++) {
            x.pours(60, 30);
        }
        Due.is("level 60", x.level(60), 870);
        Due.is("rained", x.rained(60), 878);
    }

    private static void withoutReaches() {
        QuotedRiver x = Due.told("rivers level 5 odds 0 swell 1;");
        Due.is("level 0", x.level(0), 5);
        Due.is("stands 60", x.stands(60), 0);
        Due.is("flows 60", x.flows(60), 0);
        Due.is("rained 60", x.rained(60), 0);
        Due.is("dry 0", x.dry(0), -2);
        Due.is("lowest", x.lowest(), 5);
        Due.is("deeper", x.deeper(), 0);
    }

    private static void noneSuch() {
        QuotedRiver none = new QuotedRiver();
        Due.is("lowest", none.lowest(), -2);
        Due.is("deeper", none.deeper(), -2);
        for (int step : new int[] {-1, 61, Integer.MAX_VALUE, Integer.MIN_VALUE}) {
            noStep(Due.told(Samples.FOUR), step);
        }
        noStep(none, 0);
        for (int reach : new int[] {-1, 4, 10, Integer.MAX_VALUE, Integer.MIN_VALUE}) {
            noReach(Due.told(Samples.FOUR), reach);
        }
        noReach(none, 0);
    }

    private static void noStep(QuotedRiver x, int step) {
        Due.is("level " + step, x.level(step), -2);
        Due.is("stands " + step, x.stands(step), -2);
        Due.is("flows " + step, x.flows(step), -2);
        Due.is("rained " + step, x.rained(step), -2);
    }

    private static void noReach(QuotedRiver x, int reach) {
        Due.is("dry " + reach, x.dry(reach), -2);
        Due.is("drought " + reach, x.drought(reach), -2);
        Due.is("idle " + reach, x.idle(reach), -2);
    }
}
