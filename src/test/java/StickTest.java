/** Promises 13 to 20, 36 and 38: where one STICK comes. */
public final class StickTest {
    public static void main(String[] args) {
        where();
        way();
        standing();
        atStepSixty();
        inTheSame();
        byJoins();
        noneSuch();
        Due.end();
    }

    private static void where() {
        QuotedRiver x = Due.told(Samples.FOUR);
        path(x, 0, 0, 0, 0, 2, -1, -1);
        path(x, 0, 1, 0, 0, 1, 2, -1, -1);
        path(x, 0, 2, 0, 0, 1, 0, 0, 1, 2, 2, 2);
        path(x, 1, 0, 1, 0, 0, 1, 2, -1);
        path(x, 1, 1, 1, 2, -1);
        path(x, 1, 2, 1, 0, 0, 2, -1);
        path(x, 2, 7, 2, -1);
        path(x, 2, 8, 2, 2, 2, 2);
        path(x, 3, 0, 3, 3, 3, 3, 3);
        Due.is("where at 60", x.where(0, 2, 60), 2);
        Due.is("where at 60", x.where(0, 0, 60), -1);
        Due.is("where at 60", x.where(0, 60, 60), 0);
        int[][] sea = {{0, 0, 3}, {0, 1, 5}, {0, 2, -1}, {1, 0, 5}, {1, 2, 6}, {2, 7, 8}, {2, 8, -1}, {3, 0, -1}};
        for (int[] row : sea) {
            Due.is("sea " + row[0] + " " + row[1], x.sea(row[0], row[1]), row[2]);
        }
        int[][] comes = {{0, 0, 0, 0}, {0, 0, 2, 2}, {0, 0, 1, -1}, {0, 2, 2, 8}, {0, 2, 1, 4}, {1, 0, 0, 1},
            {1, 0, 1, 0}, {0, 60, 0, 60}, {0, 60, 1, -1}, {3, 0, 0, -1}};
        for (int[] row : comes) {
            Due.is("comes " + row[0] + " " + row[1] + " " + row[2], x.comes(row[0], row[1], row[2]), row[3]);
        }
    }

    private static void path(QuotedRiver x, int reach, int step, int... due) {
        for (int i = 0; i < due.length; i++) {
            Due.is("where " + reach + " " + step + " " + (step + i), x.where(reach, step, step + i), due[i]);
        }
    }

    private static void way() {
        QuotedRiver x = Due.told(Samples.FOUR);
        // REACH, STEP, way, leaves, waits, jumps, finds, used, again.
        int[][] due = {
            {0, 0, 5, 2, 0, 1, 2, 1, -1},
            {0, 1, 7, 3, 0, 0, 2, 0, -1},
            {0, 2, 7, 4, 53, 1, 2, 2, 5},
            {1, 0, 7, 4, 0, 1, 2, 2, 3},
            {1, 2, 7, 3, 0, 2, 2, 3, -1},
            {2, 7, 4, 1, 0, 0, 2, 0, -1},
            {2, 8, 4, 0, 53, 0, 2, 0, -1},
            {3, 0, 8, 3, 51, 0, 3, 0, 3},
            {3, 8, 8, 0, 51, 0, 3, 0, -1},
            {0, 8, 1, 0, 52, 0, 0, 0, -1},
        };
        for (int[] row : due) {
            String of = " " + row[0] + " " + row[1];
            Due.is("way" + of, x.way(row[0], row[1]), row[2]);
            Due.is("leaves" + of, x.leaves(row[0], row[1]), row[3]);
            Due.is("waits" + of, x.waits(row[0], row[1]), row[4]);
            Due.is("jumps" + of, x.jumps(row[0], row[1]), row[5]);
            Due.is("finds" + of, x.finds(row[0], row[1]), row[6]);
            Due.is("used" + of, x.used(row[0], row[1]), row[7]);
            Due.is("again" + of, x.again(row[0], row[1]), row[8]);
        }
        // It finds 1 latest, though it comes to 0 and 2 behind that again.
        QuotedRiver y = Due.told("rivers level 60 odds 0 swell 1;reach to 2 takes 1 low 0;reach to 0 takes 1 low 0;"
                + "reach to 1 takes 1 low 0;reach to sea takes 1 low 0;");
        Due.is("finds", y.finds(0, 0), 1);
        Due.is("again", y.again(0, 0), 3);
        Due.is("again", y.again(0, 57), 60);
        Due.is("again", y.again(0, 58), -1);
        Due.is("leaves", y.leaves(0, 0), 61);
        Due.is("way", y.way(0, 0), 7);
    }

    private static void standing() {
        QuotedRiver x = Due.told(Samples.GAPS);
        Due.is("sea", x.sea(0, 0), 51);
        Due.is("sea", x.sea(0, 2), 51);
        Due.is("sea", x.sea(0, 3), 52);
        Due.is("sea", x.sea(0, 51), 56);
        Due.is("sea", x.sea(0, 53), 58);
        Due.is("sea", x.sea(0, 54), -1);
        Due.is("waits", x.waits(0, 0), 46);
        Due.is("waits", x.waits(0, 49), 1);
        Due.is("waits", x.waits(0, 54), 3);
        Due.is("waits", x.waits(0, 60), 1);
        Due.is("leaves", x.leaves(0, 53), 1);
        Due.is("leaves", x.leaves(0, 54), 0);
        Due.is("where", x.where(0, 0, 50), 0);
        Due.is("where", x.where(0, 0, 51), -1);
    }

    private static void atStepSixty() {
        QuotedRiver x = Due.told(Samples.FORK);
        Due.is("sea", x.sea(4, 59), 60);
        Due.is("sea", x.sea(4, 60), -1);
        Due.is("where", x.where(4, 60, 60), 4);
        Due.is("leaves", x.leaves(4, 60), 1);
        Due.is("leaves", x.leaves(4, 59), 1);
        Due.is("way", x.way(0, 60), 1);
        Due.is("way", x.way(0, 59), 9);
        Due.is("jumps", x.jumps(0, 59), 1);
        // 58 modulo 3 is 1: a JOIN goes; put in at 60, none does.
        Due.is("jumps", x.jumps(0, 58), 1);
        Due.is("jumps", x.jumps(0, 60), 0);
        Due.is("used", x.used(0, 58), 1);
        Due.is("used", x.used(0, 59), 2);
        Due.is("used", x.used(0, 60), 0);
        QuotedRiver y = Due.told("rivers level 60 odds 0 swell 1;reach to sea takes 1 low 0;"
                + "join 0 to 0 each 9 at 6;join 0 to 0 each 5 at 0;");
        Due.is("leaves", y.leaves(0, 60), 1);
        Due.is("jumps", y.jumps(0, 60), 1);
        Due.is("used", y.used(0, 60), 1);
        Due.is("again", y.again(0, 60), -1);
        Due.is("sea", y.sea(0, 60), -1);
    }

    private static void inTheSame() {
        QuotedRiver x = Due.told("rivers level 60 odds 0 swell 1;reach to 0 takes 4 low 0;");
        Due.is("leaves", x.leaves(0, 0), 15);
        Due.is("leaves", x.leaves(0, 57), 1);
        Due.is("leaves", x.leaves(0, 58), 0);
        Due.is("again", x.again(0, 0), 4);
        Due.is("again", x.again(0, 56), 60);
        Due.is("again", x.again(0, 57), -1);
        Due.is("comes", x.comes(0, 7, 0), 7);
        Due.is("finds", x.finds(0, 0), 0);
        Due.is("sea", x.sea(0, 0), -1);
    }

    private static void byJoins() {
        // Both JOINS go at even STEPS: the first told does; what it has been carried begins anew.
        QuotedRiver x = Due.told("rivers level 60 odds 0 swell 1;reach to sea takes 3 low 0;reach to sea takes 2 low 0;"
                + "reach to sea takes 2 low 0;join 0 to 1 each 2 at 0;join 0 to 2 each 1 at 0;");
        path(x, 0, 0, 0, 0, 0, 1, 1, -1);
        path(x, 0, 1, 0, 0, 0, 2, 2, -1);
        Due.is("used", x.used(0, 0), 1);
        Due.is("used", x.used(0, 1), 2);
        Due.is("close", x.close(0, 1), 0);
        path(x, 0, 0, 0, 0, 0, 2, 2, -1);
        Due.is("close", x.close(1, 1), 0);
        path(x, 0, 0, 0, 0, 0, -1);
        Due.is("jumps", x.jumps(0, 0), 0);
        Due.is("close", x.close(0, 0), 1);
        path(x, 0, 0, 0, 0, 0, 1, 1, -1);
    }

    private static void noneSuch() {
        QuotedRiver x = Due.told(Samples.FOUR);
        Due.is("where earlier", x.where(0, 2, 1), -2);
        Due.is("where earlier", x.where(0, 60, 59), -2);
        Due.is("where earlier", x.where(0, 0, -1), -2);
        Due.is("where behind", x.where(0, 0, 61), -2);
        Due.is("comes", x.comes(0, 0, 4), -2);
        Due.is("comes", x.comes(0, 0, -1), -2);
        for (int none : new int[] {-1, 61, Integer.MAX_VALUE, Integer.MIN_VALUE}) {
            noneOf(x, none, 0);
            noneOf(x, 0, none);
        }
        noneOf(x, 4, 0);
        noneOf(new QuotedRiver(), 0, 0);
        noneOf(Due.told("rivers level 1 odds 1 swell 1;"), 0, 0);
    }

    private static void noneOf(QuotedRiver x, int reach, int step) {
        String of = " " + reach + " " + step;
        Due.is("where" + of, x.where(reach, step, 60), -2);
        Due.is("sea" + of, x.sea(reach, step), -2);
        Due.is("comes" + of, x.comes(reach, step, 0), -2);
        Due.is("way" + of, x.way(reach, step), -2);
        Due.is("leaves" + of, x.leaves(reach, step), -2);
        Due.is("waits" + of, x.waits(reach, step), -2);
        Due.is("jumps" + of, x.jumps(reach, step), -2);
        Due.is("finds" + of, x.finds(reach, step), -2);
        Due.is("used" + of, x.used(reach, step), -2);
        Due.is("again" + of, x.again(reach, step), -2);
        Due.is("together" + of, x.together(reach, step), -2);
        Due.is("shut" + of, x.shut(reach, step), -2);
        Due.is("pour" + of, x.pour(reach, step, 0), -2);
    }
}
