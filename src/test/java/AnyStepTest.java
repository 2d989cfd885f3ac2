/** Promises 39, 40 and 43 to 51: STICKS put in at any STEP, what stops them and what helps them. */
public final class AnyStepTest {
    /** 0 is low but at STEP 5. */
    private static final String ONCE = "rivers level 0 odds 0 swell 1;reach to 1 takes 1 low 1;"
            + "reach to sea takes 1 low 0;rain 1 at 5;";

    public static void main(String[] args) {
        can();
        comingInFour();
        comingOnce();
        comingToItself();
        late();
        stop();
        stopOfRings();
        shut();
        pour();
        noneSuch();
        Due.end();
    }

    private static void can() {
        QuotedRiver x = Due.told(Samples.FOUR);
        int[] due = {7, 7, 4, 8};
        for (int reach = 0; reach < 4; reach++) {
            Due.is("can " + reach, x.can(reach), due[reach]);
        }
        QuotedRiver y = Due.told(Samples.FORK);
        Due.is("can", y.can(0), 31);
        Due.is("close", y.close(0, 1), 0);
        Due.is("can", y.can(0), 27);
        Due.is("can", y.can(1), 18);
    }

    private static void comingInFour() {
        QuotedRiver x = Due.told(Samples.FOUR);
        // From 0 it is in 2 first at 2 4 8 5 10 8 8 10, put in at 0 .. 7; later never.
        coming(x, 0, 2, 0, 2, 0, 6, 8);
        coming(x, 2, 0, -1, -1, -1, -1, 0);
        coming(x, 3, 1, -1, -1, -1, -1, 0);
        // From 1 it LEAVES at once: at the 30 odd STEPS to 59 for 2, at even ones for 0, from 8 on to stay there.
        Due.is("often", x.often(1, 2), 34);
        Due.is("quick", x.quick(1, 2), 1);
        Due.is("quickly", x.quickly(1, 2), 1);
    }

    private static void comingOnce() {
        QuotedRiver x = Due.told(ONCE);
        coming(x, 0, 1, 5, 1, 5, 6, 6);
        coming(x, 1, 0, -1, -1, -1, -1, 0);
    }

    private static void comingToItself() {
        for (String text : new String[] {Samples.FOUR, ONCE, Samples.GAPS}) {
            coming(Due.told(text), 0, 0, 0, 0, 0, 0, 61);
        }
    }

    private static void coming(QuotedRiver x, int reach, int other, int... due) {
        String of = " " + reach + " " + other;
        Due.is("soon" + of, x.soon(reach, other), due[0]);
        Due.is("quick" + of, x.quick(reach, other), due[1]);
        Due.is("quickly" + of, x.quickly(reach, other), due[2]);
        Due.is("slowly" + of, x.slowly(reach, other), due[3]);
        Due.is("often" + of, x.often(reach, other), due[4]);
    }

    private static void late() {
        QuotedRiver x = Due.told(Samples.FOUR);
        int[][] due = {{0, 2, 8, 6}, {0, 2, 3, -1}, {0, 2, 2, 0}, {0, 2, 60, 7}, {0, 0, 60, 60}, {0, 0, 0, 0},
            {0, 1, 0, -1}, {0, 1, 3, 1}, {3, 3, 17, 17}, {3, 0, 60, -1}};
        for (int[] row : due) {
            Due.is("late " + row[0] + " " + row[1] + " " + row[2], x.late(row[0], row[1], row[2]), row[3]);
        }
    }

    private static void stop() {
        QuotedRiver x = Due.told(Samples.FORK);
        // REACH, another one, how many, which.
        int[][] due = {{0, 4, 3, 14}, {0, 1, -1, -1}, {0, 2, -1, -1}, {1, 0, 0, 0}, {1, 4, -1, -1}, {0, 0, -1, -1},
            {4, 0, 0, 0}, {1, 2, 0, 0}};
        for (int[] row : due) {
            Due.is("stop " + row[0] + " " + row[1], x.stop(row[0], row[1]), row[2]);
            Due.is("stops " + row[0] + " " + row[1], x.stops(row[0], row[1]), row[3]);
        }
        Due.is("close", x.close(1, 1), 0);
        Due.is("stop", x.stop(0, 4), 2);
        Due.is("stops", x.stops(0, 4), 6);
        // Of two sets of one the least: 0 -> 3 -> 1 -> 2.
        QuotedRiver y = Due.told("rivers level 60 odds 0 swell 1;reach to 3 takes 1 low 0;reach to 2 takes 1 low 0;"
                + "reach to sea takes 1 low 0;reach to 1 takes 1 low 0;");
        Due.is("stop", y.stop(0, 2), 1);
        Due.is("stops", y.stops(0, 2), 2);
        // One REACH behind a fork is fewer than the two of it, though its number is greater.
        QuotedRiver z = Due.told("rivers level 60 odds 0 swell 1;reach to 1 takes 1 low 0;reach to 3 takes 1 low 0;"
                + "reach to 3 takes 1 low 0;reach to 4 takes 1 low 0;reach to sea takes 1 low 0;join 0 to 2 each 2 at 0;");
        Due.is("stop", z.stop(0, 4), 1);
        Due.is("stops", z.stops(0, 4), 8);
        Due.is("stop", z.stop(0, 3), 2);
        Due.is("stops", z.stops(0, 3), 6);
    }

    private static void stopOfRings() {
        // From 0 it may come round to 0 again by 1 ahead of 2; what can't be by 60 needs no stop.
        QuotedRiver x = Due.told("rivers level 60 odds 0 swell 1;reach to 1 takes 1 low 0;reach to 0 takes 1 low 0;"
                + "reach to sea takes 1 low 0;join 0 to 2 each 5 at 0;");
        Due.is("stop", x.stop(0, 2), -1);
        Due.is("stop", x.stop(1, 2), 1);
        Due.is("stops", x.stops(1, 2), 1);
        Due.is("stop", x.stop(2, 0), 0);
        QuotedRiver y = Due.told("rivers level 0 odds 0 swell 1;reach to 1 takes 1 low 1;reach to 2 takes 1 low 0;"
                + "reach to sea takes 1 low 0;rain 1 at 59;");
        Due.is("stop", y.stop(0, 2), 0);
        Due.is("stops", y.stops(0, 2), 0);
        Due.is("pours", y.pours(58, 1), 1);
        Due.is("stop", y.stop(0, 2), 1);
        Due.is("stops", y.stops(0, 2), 2);
    }

    private static void shut() {
        QuotedRiver x = Due.told(Samples.FOUR);
        int[][] due = {{0, 2, 1}, {0, 0, -1}, {1, 0, 1}, {3, 0, -1}, {2, 8, -1}, {0, 1, -1}};
        for (int[] row : due) {
            Due.is("shut " + row[0] + " " + row[1], x.shut(row[0], row[1]), row[2]);
        }
        // 0, by JOIN 0 to 4, by JOIN 1 to 2, 3, sea; without 0 by JOIN 2 to 2, 3, sea.
        QuotedRiver y = Due.told("rivers level 60 odds 0 swell 1;reach to 1 takes 1 low 0;reach to sea takes 1 low 0;"
                + "reach to 3 takes 1 low 0;reach to sea takes 1 low 0;reach to 2 takes 5 low 0;"
                + "join 0 to 4 each 1 at 0;join 4 to 2 each 1 at 0;join 0 to 2 each 1 at 0;");
        Due.is("sea", y.sea(0, 0), 8);
        Due.is("shut", y.shut(0, 0), 0);
        Due.is("close", y.close(0, 1), 0);
        Due.is("sea", y.sea(0, 0), 3);
        Due.is("shut", y.shut(0, 0), 2);
        Due.is("close", y.close(2, 1), 0);
        Due.is("sea", y.sea(0, 0), 2);
        Due.is("shut", y.shut(0, 0), -1);
        // It comes into 1 at 1, again at 2 and 3; without JOIN 3 it is in the sea at 2, without 2 at 3.
        QuotedRiver z = Due.told("rivers level 60 odds 0 swell 1;reach to 1 takes 1 low 0;"
                + "reach to sea takes 1 low 0;reach to sea takes 3 low 0;join 0 to 0 each 9 at 8;"
                + "join 0 to 1 each 9 at 7;join 1 to 1 each 9 at 2;join 1 to 1 each 9 at 1;");
        Due.is("sea", z.sea(0, 0), 4);
        Due.is("shut", z.shut(0, 0), 3);
        // Without one as without the other it is in the sea at 2: the first of the two.
        String four = "rivers level 60 odds 0 swell 1;reach to 3 takes 1 low 0;"
                + "reach to sea takes 1 low 0;".repeat(3);
        QuotedRiver tied = Due.told(four + "join 0 to 1 each 1 at 0;join 1 to 2 each 1 at 0;");
        Due.is("sea", tied.sea(0, 0), 3);
        Due.is("shut", tied.shut(0, 0), 0);
        tied = Due.told(four + "join 1 to 2 each 1 at 0;join 0 to 1 each 1 at 0;");
        Due.is("sea", tied.sea(0, 0), 3);
        Due.is("shut", tied.shut(0, 0), 0);
    }

    private static void pour() {
        QuotedRiver x = Due.told(Samples.FOUR);
        int[][] due = {{0, 2, 8, 1}, {0, 2, 9, 2}, {0, 2, 60, -1}, {0, 2, 59, 4}, {0, 2, 3, 1}, {0, 0, 5, 0},
            {3, 0, 1, -1}, {2, 60, 60, -1}};
        for (int[] row : due) {
            Due.is("pour " + row[0] + " " + row[1] + " " + row[2], x.pour(row[0], row[1], row[2]), row[3]);
        }
        Due.is("level stays", x.level(8), 3);
        Due.is("no act", x.count(6), 0);
        QuotedRiver y = Due.told(Samples.GAPS);
        int[][] gaps = {{54, 58, 1}, {54, 60, -1}, {54, 59, 2}, {54, 0, 45}, {0, 60, 0}, {55, 58, 2}, {60, 0, -1}};
        for (int[] row : gaps) {
            Due.is("pour 0 " + row[0] + " " + row[1], y.pour(0, row[0], row[1]), row[2]);
        }
        // The most that is poured is 60: the LEVEL at 51 is 9 less than that of 0.
        QuotedRiver z = Due.told("rivers level 0 odds 0 swell 1;reach to sea takes 1 low 20;");
        Due.is("pour", z.pour(0, 40, 0), 60);
        Due.is("pour", z.pour(0, 41, 0), -1);
        Due.is("pour", z.pour(0, 0, 0), 20);
        Due.is("pours", z.pours(40, 3), 3);
        Due.is("pour", z.pour(0, 41, 0), 58);
        // More rain is not always better: by STEP 3 it goes round, at STEP 4 it would not.
        QuotedRiver w = Due.told("rivers level 0 odds 0 swell 1;reach to sea takes 1 low 5;reach to 1 takes 1 low 0;"
                + "join 0 to 1 each 2 at 0;");
        Due.is("pour", w.pour(0, 4, 4), -1);
        Due.is("pour", w.pour(0, 5, 5), 5);
        Due.is("pour", w.pour(0, 4, 5), 5);
        Due.is("pour", w.pour(0, 3, 0), 8);
    }

    private static void noneSuch() {
        QuotedRiver x = Due.told(Samples.FOUR);
        for (int none : new int[] {-1, 61, Integer.MAX_VALUE, Integer.MIN_VALUE}) {
            noReach(x, none);
            Due.is("late 0 0 " + none, x.late(0, 0, none), -2);
            Due.is("pour 0 0 " + none, x.pour(0, 0, none), -2);
            Due.is("pour 0 " + none, x.pour(0, none, 0), -2);
            Due.is("shut 0 " + none, x.shut(0, none), -2);
        }
        noReach(x, 4);
        noReach(new QuotedRiver(), 0);
    }

    private static void noReach(QuotedRiver x, int reach) {
        Due.is("can " + reach, x.can(reach), -2);
        Due.is("shut " + reach, x.shut(reach, 0), -2);
        Due.is("pour " + reach, x.pour(reach, 0, 0), -2);
        for (int i = 0; i < 2; i++) {
            int a = i == 0 ? reach : 0;
            int b = i == 0 ? 0 : reach;
            String of = " " + a + " " + b;
            Due.is("slowly" + of, x.slowly(a, b), -2);
            Due.is("soon" + of, x.soon(a, b), -2);
            Due.is("quick" + of, x.quick(a, b), -2);
            Due.is("quickly" + of, x.quickly(a, b), -2);
            Due.is("late" + of, x.late(a, b, 0), -2);
            Due.is("often" + of, x.often(a, b), -2);
            Due.is("stop" + of, x.stop(a, b), -2);
            Due.is("stops" + of, x.stops(a, b), -2);
        }
        Due.is("stop twice", x.stop(reach, reach), -2);
    }
}
