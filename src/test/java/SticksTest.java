/** Promises 21 to 23, 25, 26, 28 to 31, 35 and 37: several STICKS at once, and the course as told. */
public final class SticksTest {
    public static void main(String[] args) {
        fromAndEnds();
        meeting();
        busy();
        together();
        course();
        goes();
        noneSuch();
        Due.end();
    }

    private static void fromAndEnds() {
        QuotedRiver x = Due.told(Samples.FOUR);
        int[][] from = {{0, 0, 1}, {2, 2, 1}, {0, 2, 2}, {0, 1, 3}, {2, 4, 2}, {3, 60, 8}, {1, 60, 0}};
        for (int[] row : from) {
            Due.is("from " + row[0] + " " + row[1], x.from(row[0], row[1]), row[2]);
        }
        int[][] ends = {{0, 7}, {1, 7}, {2, 6}, {7, 4}, {8, 0}, {60, 0}};
        for (int[] row : ends) {
            Due.is("ends " + row[0], x.ends(row[0]), row[1]);
        }
        QuotedRiver y = Due.told(Samples.FORK);
        Due.is("from", y.from(4, 1), 14);
        Due.is("ends 57", y.ends(57), 31);
        Due.is("ends 58", y.ends(58), 30);
        Due.is("ends 59", y.ends(59), 16);
        Due.is("ends 60", y.ends(60), 0);
    }

    private static void meeting() {
        QuotedRiver x = Due.told(Samples.FOUR);
        // 0 0 2 sea, 1 0 0 1 2 sea, 2 sea, 3 3 ..
        int[][] due = {{0, 1, 1, 1}, {1, 0, 1, 1}, {0, 0, 0, 3}, {1, 1, 0, 5}, {2, 2, 0, 1}, {3, 3, 0, 61},
            {0, 2, -1, 0}, {2, 3, -1, 0}};
        for (int[] row : due) {
            Due.is("meet " + row[0] + " " + row[1], x.meet(row[0], row[1]), row[2]);
            Due.is("alike " + row[0] + " " + row[1], x.alike(row[0], row[1]), row[3]);
        }
        QuotedRiver y = Due.told(Samples.FORK);
        Due.is("meet", y.meet(1, 3), 1);
        Due.is("alike", y.alike(1, 3), 1);
        Due.is("meet", y.meet(0, 3), -1);
        // Two that are together from STEP 60 on alone.
        QuotedRiver z = Due.told("rivers level 0 odds 0 swell 1;reach to 1 takes 1 low 1;reach to 1 takes 1 low 20;"
                + "rain 1 at 59;");
        Due.is("meet", z.meet(0, 1), 60);
        Due.is("alike", z.alike(0, 1), 1);
    }

    private static void busy() {
        QuotedRiver x = Due.told(Samples.FOUR);
        int[][] due = {{0, 0}, {1, 0}, {2, 0}, {3, 1}, {4, 2}, {5, 3}, {60, 3}};
        for (int[] row : due) {
            Due.is("busy " + row[0], x.busy(row[0]), row[1]);
        }
        QuotedRiver y = Due.told(Samples.FORK);
        Due.is("busy 1", y.busy(1), 4);
        Due.is("busy 2", y.busy(2), 4);
        Due.is("busy 3", y.busy(3), -1);
        Due.is("busy of none", Due.told("rivers level 1 odds 1 swell 1;").busy(0), -1);
    }

    private static void together() {
        QuotedRiver x = Due.told(Samples.FOUR);
        Due.is("together", x.together(0, 0), 7);
        Due.is("together", x.together(0, 2), 1);
        Due.is("together", x.together(1, 2), 6);
        Due.is("together", x.together(3, 0), 8);
        Due.is("together", x.together(3, 60), 8);
        // Put in at 7: 0 is in 2 at 10, 1 is in 2 at 8: both there at 60.
        Due.is("together", x.together(0, 7), 3);
        Due.is("together", x.together(2, 7), 4);
    }

    private static void course() {
        QuotedRiver x = Due.told(Samples.FOUR);
        Due.is("mouths", x.mouths(), 4);
        Due.is("springs", x.springs(), 0);
        Due.is("rings", x.rings(), 8);
        int[] depth = {3, 2, 1, -1};
        for (int reach = 0; reach < 4; reach++) {
            Due.is("depth " + reach, x.depth(reach), depth[reach]);
        }
        // 0 -> 1 -> 2 -> 0, 3 -> 0, 4 -> none such, 5 -> sea, 6 -> 6; JOIN 4 to 5.
        QuotedRiver y = Due.told("rivers level 1 odds 1 swell 1;reach to 1 takes 1 low 0;reach to 2 takes 1 low 0;"
                + "reach to 0 takes 1 low 0;reach to 0 takes 1 low 0;reach to 9 takes 1 low 0;"
                + "reach to sea takes 1 low 0;reach to 6 takes 1 low 0;join 4 to 5 each 9 at 8;");
        Due.is("mouths", y.mouths(), 48);
        Due.is("springs", y.springs(), 24);
        Due.is("rings", y.rings(), 71);
        int[] far = {-1, -1, -1, -1, 1, 1, -1};
        for (int reach = 0; reach < 7; reach++) {
            Due.is("depth " + reach, y.depth(reach), far[reach]);
        }
        Due.is("close", y.close(0, 1), 0);
        Due.is("springs", y.springs(), 24);
        // Ten in a row to the sea, and ten in one ring.
        StringBuilder row = new StringBuilder("rivers level 1 odds 1 swell 1;reach to sea takes 1 low 0;");
        StringBuilder ring = new StringBuilder("rivers level 1 odds 1 swell 1;reach to 9 takes 1 low 0;");
        for (int reach = 0; reach < 9; reach++) {
            row.append("reach to ").append(reach).append(" takes 1 low 0;");
            ring.append("reach to ").append(reach).append(" takes 1 low 0;");
        }
        QuotedRiver ten = Due.told(row.toString());
        Due.is("depth", ten.depth(9), 10);
        Due.is("springs", ten.springs(), 512);
        Due.is("rings", ten.rings(), 0);
        QuotedRiver round = Due.told(ring.toString());
        Due.is("depth", round.depth(9), -1);
        Due.is("rings", round.rings(), 1023);
        Due.is("mouths", round.mouths(), 0);
        QuotedRiver bare = Due.told("rivers level 1 odds 1 swell 1;");
        Due.is("mouths", bare.mouths(), 0);
        Due.is("springs", bare.springs(), 0);
        Due.is("rings", bare.rings(), 0);
        Due.is("depth", bare.depth(0), -2);
    }

    private static void goes() {
        QuotedRiver x = Due.told(Samples.FOUR);
        int[][] due = {{0, 0, 0}, {0, 1, 1}, {0, 2, 0}, {0, 4, 1}, {0, 58, 1}, {0, 60, 0}, {1, 0, 1}, {1, 1, 0},
            {1, 60, 1}};
        for (int[] row : due) {
            Due.is("goes " + row[0] + " " + row[1], x.goes(row[0], row[1]), row[2]);
        }
        Due.is("close", x.close(1, 1), 0);
        Due.is("goes", x.goes(1, 0), 0);
        Due.is("goes", x.goes(0, 1), 1);
        Due.is("close", x.close(1, 0), 1);
        Due.is("goes", x.goes(1, 0), 1);
    }

    private static void noneSuch() {
        QuotedRiver x = Due.told(Samples.FOUR);
        for (int none : new int[] {-1, 61, Integer.MAX_VALUE, Integer.MIN_VALUE}) {
            noReach(x, none);
            noStep(x, none);
        }
        noReach(x, 4);
        Due.is("goes 2", x.goes(2, 0), -2);
        QuotedRiver none = new QuotedRiver();
        noReach(none, 0);
        noStep(none, 0);
        Due.is("mouths", none.mouths(), -2);
        Due.is("springs", none.springs(), -2);
        Due.is("rings", none.rings(), -2);
    }

    private static void noReach(QuotedRiver x, int reach) {
        Due.is("from " + reach, x.from(reach, 0), -2);
        Due.is("meet " + reach, x.meet(reach, 0), -2);
        Due.is("meet 0 " + reach, x.meet(0, reach), -2);
        Due.is("alike " + reach, x.alike(reach, 0), -2);
        Due.is("alike 0 " + reach, x.alike(0, reach), -2);
        Due.is("together " + reach, x.together(reach, 0), -2);
        Due.is("depth " + reach, x.depth(reach), -2);
        Due.is("goes " + reach, x.goes(reach, 0), -2);
    }

    private static void noStep(QuotedRiver x, int step) {
        Due.is("from 0 " + step, x.from(0, step), -2);
        Due.is("ends " + step, x.ends(step), -2);
        Due.is("busy " + step, x.busy(step), -2);
        Due.is("together 0 " + step, x.together(0, step), -2);
        Due.is("goes 0 " + step, x.goes(0, step), -2);
    }
}
