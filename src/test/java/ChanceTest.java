/** Promises 41, 63, 64, 69 and 70: RAIN by chance, and DAYS drawn. */
public final class ChanceTest {
    public static void main(String[] args) {
        chance();
        mean();
        sure();
        withActs();
        greatest();
        risk();
        drawn();
        luck();
        noneSuch();
        Due.end();
    }

    private static void chance() {
        QuotedRiver x = Due.told(Samples.CHANCE);
        // STEP 1: 0 by 8 in ten, 3. STEP 2: 0 by 64 in a hundred, 2 and 3 by 16 each, 5 by 4.
        int[][] due = {{0, 0, 1, 1}, {0, 1, 1, 1}, {0, 2, 0, 1}, {1, 0, 1, 1}, {1, 1, 1, 5}, {1, 3, 1, 5}, {1, 4, 0, 1},
            {2, 0, 1, 1}, {2, 1, 9, 25}, {2, 2, 9, 25}, {2, 3, 1, 5}, {2, 4, 1, 25}, {2, 5, 1, 25}, {2, 6, 0, 1},
            {14, 0, 1, 1}, {14, 99, 0, 1}};
        for (int[] row : due) {
            Due.is("chance " + row[0] + " " + row[1], x.chance(row[0], row[1], 0), row[2]);
            Due.is("chance below " + row[0] + " " + row[1], x.chance(row[0], row[1], 1), row[3]);
        }
        // Rain at each of 14 STEPS: 1 in 5 to the power of 14; LEVEL 3 + 13 times 2.
        Due.is("chance", x.chance(14, 29, 0), 1);
        Due.is("chance", x.chance(14, 29, 1), 6103515625L);
        Due.is("chance", x.chance(14, 30, 0), 0);
    }

    private static void mean() {
        QuotedRiver x = Due.told(Samples.CHANCE);
        long[][] due = {{0, 1, 1}, {1, 3, 5}, {2, 1, 1}};
        for (long[] row : due) {
            Due.is("mean " + row[0], x.mean((int) row[0], 0), row[1]);
            Due.is("mean below " + row[0], x.mean((int) row[0], 1), row[2]);
        }
        // 5 less 1, and by 3 in ten 9 more: 4 and 27 in ten; then 3 and 54 in ten.
        QuotedRiver y = Due.told("rivers level 5 odds 3 swell 9;rain 2 at 3;");
        Due.is("mean 1", y.mean(1, 0), 67);
        Due.is("mean below 1", y.mean(1, 1), 10);
        Due.is("mean 2", y.mean(2, 0), 42);
        Due.is("mean below 2", y.mean(2, 1), 5);
        Due.is("mean 3", y.mean(3, 0), 121);
        Due.is("mean below 3", y.mean(3, 1), 10);
        QuotedRiver none = Due.told("rivers level 0 odds 0 swell 9;");
        Due.is("mean of 0", none.mean(14, 0), 0);
        Due.is("mean of 0", none.mean(14, 1), 1);
    }

    private static void sure() {
        QuotedRiver x = Due.told(Samples.GAPS);
        // One more at each STEP from 1 on: 1 1 6 6 6 ..
        int[] level = {1, 1, 6, 6};
        for (int step = 0; step <= 14; step++) {
            int due = step < level.length ? level[step] : 6;
            Due.is("mean " + step, x.mean(step, 0), due);
            Due.is("mean below " + step, x.mean(step, 1), 1);
            Due.is("chance " + step, x.chance(step, due, 0), 1);
            Due.is("chance " + step, x.chance(step, due + 1, 0), 0);
        }
        Due.is("told", x.level(14), 0);
    }

    private static void withActs() {
        QuotedRiver x = Due.told(Samples.CHANCE);
        Due.is("pours", x.pours(1, 2), 2);
        Due.is("chance", x.chance(1, 2, 0), 1);
        Due.is("chance", x.chance(1, 3, 0), 1);
        Due.is("chance", x.chance(1, 3, 1), 5);
        Due.is("mean", x.mean(1, 0), 13);
        Due.is("mean", x.mean(1, 1), 5);
        Due.is("pours", x.pours(0, 7), 8);
        Due.is("chance", x.chance(0, 8, 0), 1);
        // What was great is forgotten.
        Due.is("anew", x.anew(), 2);
        Due.is("chance", x.chance(0, 2, 0), 0);
        Due.is("chance", x.chance(2, 3, 1), 5);
        Due.is("mean", x.mean(2, 0), 1);
    }

    private static void greatest() {
        QuotedRiver x = Due.told("rivers level 60 odds 10 swell 9;" + "rain 30 at 14;".repeat(5));
        for (int i = 0; i < 30; i++) {
            x.pours(14, 30);
        }
        Due.is("mean", x.mean(14, 0), 60 + 14 * 8 + 35 * 30);
        Due.is("mean below", x.mean(14, 1), 1);
        Due.is("chance", x.chance(14, 99, 0), 1);
        QuotedRiver y = Due.told("rivers level 60 odds 3 swell 9;" + "rain 30 at 0;".repeat(5));
        for (int i = 0; i < 30; i++) {
            y.pours(0, 30);
        }
        // 1110 less 14, and 14 times 27 in ten.
        Due.is("mean", y.mean(14, 0), 5669);
        Due.is("mean below", y.mean(14, 1), 5);
    }

    private static void risk() {
        QuotedRiver x = Due.told(Samples.CHANCE);
        // 0 (low 1) STANDS by 0, 80, 64 .. in a hundred, 1 (low 4) by 100 at once.
        int[][] due = {{0, 0, 0}, {0, 1, 1}, {0, 80, 1}, {0, 81, -1}, {0, 100, -1}, {1, 0, 0}, {1, 100, 0}};
        for (int[] row : due) {
            Due.is("risk " + row[0] + " " + row[1], x.risk(row[0], row[1]), row[2]);
        }
        QuotedRiver y = Due.told("rivers level 13 odds 0 swell 1;reach to sea takes 1 low 1;reach to 0 takes 1 low 0;");
        Due.is("risk", y.risk(0, 100), 13);
        Due.is("risk", y.risk(0, 0), 0);
        Due.is("risk", y.risk(1, 1), -1);
        Due.is("risk", Due.told("rivers level 14 odds 0 swell 1;reach to sea takes 1 low 1;").risk(0, 100), 14);
        Due.is("risk", Due.told("rivers level 15 odds 0 swell 1;reach to sea takes 1 low 1;").risk(0, 1), -1);
        // 2, 1, 0 without rain, by 9 in ten each: 81 in a hundred at 2.
        QuotedRiver z = Due.told("rivers level 2 odds 1 swell 9;reach to sea takes 1 low 1;");
        Due.is("risk", z.risk(0, 81), 2);
        Due.is("risk", z.risk(0, 82), -1);
        Due.is("pours", z.pours(0, 1), 3);
        Due.is("risk", z.risk(0, 72), 3);
        Due.is("risk", z.risk(0, 73), -1);
    }

    private static void drawn() {
        QuotedRiver x = Due.told(Samples.FOUR);
        int[][] due = {{0, 6, 15}, {1, 0, 8}, {5, 0, 14}, {2000000000, 0, 11}};
        for (int[] row : due) {
            Due.is("drawn " + row[0], x.drawn(row[0], 0), row[1]);
            Due.is("drawn often " + row[0], x.drawn(row[0], 1), row[2]);
        }
        Due.is("pours", x.pours(60, 7), 7);
        Due.is("drawn", x.drawn(0, 0), 13);
        Due.is("drawn often", x.drawn(0, 1), 15);
        QuotedRiver always = Due.told(Samples.GAPS);
        Due.is("drawn", always.drawn(77, 0), 15);
        Due.is("drawn often", always.drawn(77, 1), 60);
        QuotedRiver never = Due.told("rivers level 60 odds 0 swell 9;");
        Due.is("drawn", never.drawn(77, 0), 0);
        Due.is("drawn often", never.drawn(77, 1), 0);
        Due.is("level", x.level(60), 7);
    }

    private static void luck() {
        QuotedRiver x = Due.told(Samples.CHANCE);
        // It comes from 1 on every one of the DAYS 0 .. 19 but 10.
        int[][] due = {{0, 20, 19}, {0, 10, 10}, {0, 11, 10}, {10, 1, 0}, {11, 1, 1}, {1, 20, 19}, {5, 20, 18},
            {100, 20, 20}, {2000000000, 20, 19}, {2000000000, 8, 8}, {2000000000, 9, 8}};
        for (int[] row : due) {
            Due.is("luck " + row[0] + " " + row[1], x.luck(row[0], row[1], 1), row[2]);
        }
        Due.is("as told", x.sea(1, 0), -1);
        // It STANDS on dry DAYS; with JOINS shut or not.
        QuotedRiver y = Due.told("rivers level 60 odds 0 swell 1;reach to sea takes 1 low 0;join 0 to 0 each 1 at 0;");
        Due.is("luck", y.luck(3, 7, 0), 0);
        Due.is("close", y.close(0, 1), 0);
        Due.is("luck", y.luck(3, 7, 0), 7);
    }

    private static void noneSuch() {
        QuotedRiver x = Due.told(Samples.CHANCE);
        for (int none : new int[] {-1, 15, Integer.MAX_VALUE, Integer.MIN_VALUE}) {
            Due.is("mean " + none, x.mean(none, 0), -2);
            Due.is("mean what " + none, x.mean(0, none), -2);
            Due.is("chance " + none, x.chance(none, 0, 0), -2);
            Due.is("chance what " + none, x.chance(0, 0, none), -2);
            Due.is("risk " + none, x.risk(none, 50), -2);
            Due.is("drawn what " + none, x.drawn(0, none), -2);
            Due.is("luck reach " + none, x.luck(0, 1, none), -2);
        }
        for (int none : new int[] {-1, 100, 101, Integer.MAX_VALUE, Integer.MIN_VALUE}) {
            Due.is("chance n " + none, x.chance(0, none, 0), -2);
            Due.is("risk p " + none, x.risk(0, none), none == 100 ? -1 : -2);
            Due.is("luck n " + none, x.luck(0, none, 0), -2);
        }
        for (int none : new int[] {-1, 2000000001, Integer.MAX_VALUE, Integer.MIN_VALUE}) {
            Due.is("drawn " + none, x.drawn(none, 0), -2);
            Due.is("luck " + none, x.luck(none, 1, 0), -2);
        }
        Due.is("mean what 2", x.mean(0, 2), -2);
        Due.is("chance what 2", x.chance(0, 0, 2), -2);
        Due.is("drawn what 2", x.drawn(0, 2), -2);
        Due.is("risk 2", x.risk(2, 50), -2);
        Due.is("luck 2", x.luck(0, 1, 2), -2);
        Due.is("luck 0", x.luck(0, 0, 0), -2);
        Due.is("luck 21", x.luck(0, 21, 0), -2);
        QuotedRiver none = new QuotedRiver();
        Due.is("mean", none.mean(0, 0), -2);
        Due.is("chance", none.chance(0, 0, 0), -2);
        Due.is("risk", none.risk(0, 0), -2);
        Due.is("drawn", none.drawn(0, 0), -2);
        Due.is("luck", none.luck(0, 1, 0), -2);
    }
}
