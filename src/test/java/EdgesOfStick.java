/** Term III and promises 13 to 20, 36 and 38: where one STICK comes. */
final class EdgesOfStick {
    private static final int[] NO_STEPS = {-1, 61, Integer.MAX_VALUE, Integer.MIN_VALUE};
    private static final int SEA = Samples.SEA;

    /** 0 to 1 to 2 to 0 and so on, a STEP each. */
    private static final String RING = Samples.HIGH + Samples.reach(1) + Samples.reach(2) + Samples.reach(0);
    /** 0 goes by JOIN 0 to 1 at even STEPS, by JOIN 1 to 2 at any, else to the sea; 1 and 2 to the sea. */
    private static final String TURNS = Samples.HIGH + Samples.reach(SEA).repeat(3) + Samples.join(0, 1, 2, 0)
            + Samples.join(0, 2, 1, 0);
    /** LEVEL 2 1 0 .. 0, 5 at 10, 0 from 15 on; low 1, takes 4. */
    private static final String GAP = Samples.rivers(2) + Samples.reach(SEA, 4, 1) + Samples.rain(5, 10);

    private EdgesOfStick() {
    }

    static void run() {
        putIn();
        carried();
        leavesWhenCarried();
        byJoin();
        staysInSea();
        toSixty();
        where();
        sea();
        comes();
        way();
        leaves();
        waits();
        jumps();
        finds();
        used();
        again();
    }

    private static void path(QuotedRiver x, int reach, int step, int... due) {
        for (int i = 0; i < due.length; i++) {
            Due.is("where " + reach + " " + step + " " + (step + i), x.where(reach, step, step + i), due[i]);
        }
    }

    // Term III.

    private static void putIn() {
        Sentences.term("III", "A STICK is put in a REACH at a STEP; it is there then.");
        QuotedRiver x = Due.told(RING);
        for (int step : new int[] {0, 1, 59, 60}) {
            for (int reach = 0; reach < 3; reach++) {
                Due.is("there at " + step, x.where(reach, step, step), reach);
            }
        }
        Due.is("there though it STANDS", Due.told(GAP).where(0, 5, 5), 0);
    }

    private static void carried() {
        Sentences.term("III", "At each STEP at which its REACH does not STAND it is carried on there by one;");
        QuotedRiver x = Due.told(GAP);
        // Carried at 0, 1, 10 and 11.
        Due.is("in the sea", x.sea(0, 0), 12);
        Due.is("still there", x.where(0, 0, 11), 0);
        // Put in at 1: at 1, 10, 11, 12; at 2 .. 10: at 10 .. 13; at 11: at 11 .. 14; at 12: three times.
        Due.is("from 1", x.sea(0, 1), 13);
        Due.is("from 2", x.sea(0, 2), 14);
        Due.is("from 10", x.sea(0, 10), 14);
        Due.is("from 11", x.sea(0, 11), 15);
        Due.is("from 12", x.sea(0, 12), -1);
    }

    private static void leavesWhenCarried() {
        Sentences.term("III", "carried so many times as the REACH takes it LEAVES: it is at the next STEP in the REACH "
                + "into which that one flows, or the sea:");
        for (int takes = 1; takes <= 5; takes++) {
            QuotedRiver x = Due.told(Samples.HIGH + Samples.reach(1, takes, 0) + Samples.reach(SEA, takes, 0));
            Due.is("still there", x.where(0, 7, 6 + takes), 0);
            Due.is("in the next", x.where(0, 7, 7 + takes), 1);
            // What it was carried begins anew there.
            Due.is("still in the next", x.where(0, 7, 6 + 2 * takes), 1);
            Due.is("in the sea", x.where(0, 7, 7 + 2 * takes), -1);
            Due.is("sea", x.sea(0, 7), 7 + 2 * takes);
        }
        // It LEAVES at LEVEL 1, and is in the next REACH at LEVEL 0, where it STANDS.
        path(Due.told(Samples.rivers(1) + Samples.reach(1, 1, 1).repeat(2)), 0, 0, 0, 1, 1, 1);
    }

    private static void byJoin() {
        Sentences.term("III", "by the first JOIN from there that is not shut and goes at the STEP at which it LEAVES "
                + "(STEP modulo each is at), else as told.");
        QuotedRiver x = Due.told(TURNS);
        path(x, 0, 0, 0, 1, -1);
        path(x, 0, 1, 0, 2, -1);
        path(x, 0, 2, 0, 1, -1);
        path(x, 1, 0, 1, -1);
        Due.is("close", x.close(0, 1), 0);
        path(x, 0, 0, 0, 2, -1);
        Due.is("close", x.close(1, 1), 0);
        path(x, 0, 0, 0, -1);
        Due.is("open", x.close(0, 0), 1);
        path(x, 0, 0, 0, 1, -1);
        path(x, 0, 1, 0, -1);
        // At 8, 17, .. 53 of 0 .. 60.
        QuotedRiver nine = Due.told(Samples.HIGH + Samples.reach(SEA).repeat(2) + Samples.join(0, 1, 9, 8));
        for (int step = 0; step < 60; step++) {
            Due.is("of 9 at " + step, nine.where(0, step, step + 1), step % 9 == 8 ? 1 : -1);
        }
        // It is the STEP at which it LEAVES, not that at which it was put in or is in the next.
        QuotedRiver late = Due.told(Samples.HIGH + Samples.reach(SEA, 3, 0) + Samples.reach(SEA) + Samples.join(0, 1, 4, 2));
        path(late, 0, 0, 0, 0, 0, 1);
        path(late, 0, 1, 0, 0, 0, -1);
        path(late, 0, 2, 0, 0, 0, -1);
        path(late, 0, 3, 0, 0, 0, -1);
        path(late, 0, 4, 0, 0, 0, 1);
    }

    private static void staysInSea() {
        Sentences.term("III", "In the sea it stays.");
        QuotedRiver x = Due.told(TURNS);
        for (int step = 2; step <= 60; step++) {
            Due.is("at " + step, x.where(0, 0, step), -1);
        }
        Due.is("LEAVES no more", x.leaves(1, 0), 1);
    }

    private static void toSixty() {
        Sentences.term("III", "It is asked about to STEP 60 alone.");
        QuotedRiver x = Due.told(RING);
        Due.is("where at 60", x.where(0, 0, 60), 0);
        Due.is("where at 61", x.where(0, 0, 61), -2);
        Due.is("way from 60", x.way(0, 60), 1);
        Due.is("comes from 60", x.comes(0, 60, 1), -1);
        Due.is("sea from 60", Due.told(TURNS).sea(1, 60), -1);
    }

    // Promises.

    private static void noneSuch(QuotedRiver x, int reaches) {
        for (int reach : new int[] {-1, reaches, Integer.MAX_VALUE, Integer.MIN_VALUE}) {
            noneOf(x, reach, 0);
        }
        for (int step : NO_STEPS) {
            noneOf(x, 0, step);
        }
        noneOf(Due.told(Samples.HIGH), 0, 0);
        noneOf(new QuotedRiver(), 0, 0);
    }

    private static void noneOf(QuotedRiver x, int reach, int step) {
        String of = " " + reach + " " + step;
        Due.is("where" + of, x.where(reach, step, 60), -2);
        Due.is("sea" + of, x.sea(reach, step), -2);
        Due.is("comes" + of, x.comes(reach, step, 0), -2);
        Due.is("way" + of, x.way(reach, step), -2);
        Due.is("leaves" + of, x.leaves(reach, step), -2);
        Due.is("waits" + of, x.waits(reach, step), -2);
        Due.is("jumps" + of, x.jumps(reach, step), -2);
        Due.is("finds" + of, x.finds(reach, step), -2);
        Due.is("used" + of, x.used(reach, step), -2);
        Due.is("again" + of, x.again(reach, step), -2);
    }

    private static void where() {
        Sentences.promise(13, "Where a STICK put in a REACH at a STEP is at another STEP (no earlier; III): the REACH.");
        QuotedRiver x = Due.told(RING);
        path(x, 0, 5, 0, 1, 2, 0);
        Due.is("at the same", x.where(2, 60, 60), 2);
        Due.is("earlier by one", x.where(0, 5, 4), -2);
        Due.is("earlier by all", x.where(0, 60, 0), -2);
        Due.is("at -1", x.where(0, 0, -1), -2);
        Sentences.promise(13, "NONE: in the sea;");
        QuotedRiver turns = Due.told(TURNS);
        Due.is("there at 59", turns.where(1, 59, 59), 1);
        Due.is("in the sea at 60", turns.where(1, 59, 60), -1);
        Sentences.promise(13, "-2: there are none such.");
        noneSuch(x, 3);
        for (int then : NO_STEPS) {
            Due.is("then " + then, x.where(0, 0, then), -2);
        }
        Due.is("none such and none such", x.where(0, 61, 62), -2);
    }

    private static void sea() {
        Sentences.promise(14, "The STEP at which it is in the sea first.");
        QuotedRiver x = Due.told(TURNS);
        Due.is("from 0", x.sea(0, 0), 2);
        Due.is("from 1 at 0", x.sea(1, 0), 1);
        Due.is("by 60", x.sea(1, 59), 60);
        Due.is("by 60", x.sea(0, 58), 60);
        Sentences.promise(14, "NONE: by 60 at none;");
        Due.is("at 61", x.sea(1, 60), -1);
        Due.is("at 61", x.sea(0, 59), -1);
        Due.is("it goes round", Due.told(RING).sea(0, 0), -1);
        Due.is("it STANDS", Due.told(GAP).sea(0, 12), -1);
        Sentences.promise(14, "-2: there are none such.");
        noneSuch(x, 3);
    }

    private static void comes() {
        Sentences.promise(15, "The first STEP at which it is in a REACH (the same: at once).");
        QuotedRiver x = Due.told(RING);
        Due.is("to 1", x.comes(0, 7, 1), 8);
        Due.is("to 2", x.comes(0, 7, 2), 9);
        Due.is("the same", x.comes(0, 7, 0), 7);
        Due.is("the same at 60", x.comes(2, 60, 2), 60);
        Due.is("at 60", x.comes(0, 58, 2), 60);
        Sentences.promise(15, "NONE: at none;");
        Due.is("at 61", x.comes(0, 59, 2), -1);
        Due.is("not on its way", Due.told(TURNS).comes(0, 0, 2), -1);
        Sentences.promise(15, "-2 likewise.");
        noneSuch(x, 3);
        for (int other : new int[] {-1, 3, Integer.MAX_VALUE, Integer.MIN_VALUE}) {
            Due.is("other " + other, x.comes(0, 0, other), -2);
        }
    }

    private static void way() {
        Sentences.promise(16, "REACHES in which it ever is, as bits.");
        QuotedRiver x = Due.told(RING);
        Due.is("all", x.way(0, 0), 7);
        Due.is("from 58", x.way(0, 58), 7);
        Due.is("from 59", x.way(0, 59), 3);
        Due.is("from 60", x.way(1, 60), 2);
        Due.is("ten", Due.told(Samples.HIGH + tenInARow()).way(0, 0), 1023);
        Due.is("without the sea", Due.told(TURNS).way(0, 0), 3);
        Sentences.promise(16, "-2 likewise.");
        noneSuch(x, 3);
    }

    /** 0 to 1 .. 9 to the sea. */
    private static String tenInARow() {
        StringBuilder text = new StringBuilder();
        for (int to = 1; to <= 9; to++) {
            text.append(Samples.reach(to));
        }
        return text.append(Samples.reach(SEA)).toString();
    }

    private static void leaves() {
        Sentences.promise(17, "How often it LEAVES a REACH (at STEP 60, too).");
        QuotedRiver x = Due.told(RING);
        Due.is("at 0 .. 60", x.leaves(0, 0), 61);
        Due.is("at 59 and 60", x.leaves(0, 59), 2);
        Due.is("at 60", x.leaves(0, 60), 1);
        Due.is("into the sea", Due.told(TURNS).leaves(0, 0), 2);
        Due.is("into the sea at 60", Due.told(TURNS).leaves(1, 60), 1);
        QuotedRiver two = Due.told(Samples.HIGH + Samples.reach(0, 2, 0));
        Due.is("into itself at 60", two.leaves(0, 59), 1);
        Due.is("not yet at 60", two.leaves(0, 60), 0);
        Due.is("it STANDS", Due.told(GAP).leaves(0, 12), 0);
        Sentences.promise(17, "-2 likewise.");
        noneSuch(x, 3);
    }

    private static void waits() {
        Sentences.promise(18, "At how many STEPS (to 60) it is in a REACH that STANDS then.");
        QuotedRiver x = Due.told(GAP);
        // At 2 .. 9, then in the sea at 12; from 12 on at 15 .. 60.
        Due.is("from 0", x.waits(0, 0), 8);
        Due.is("from 12", x.waits(0, 12), 46);
        Due.is("at 60 alone", x.waits(0, 60), 1);
        Due.is("at none", Due.told(RING).waits(0, 0), 0);
        // Low at STEP 60 alone; what is in the sea waits no more.
        Due.is("at 60", Due.told(Samples.HIGH + Samples.reach(0, 1, 1)).waits(0, 0), 1);
        Due.is("in the sea", Due.told(Samples.HIGH + Samples.reach(SEA, 1, 1)).waits(0, 0), 0);
        // The REACH in which it is then: 0 never STANDS, 1 does from 1 on.
        Due.is("in another", Due.told(Samples.EMPTY + Samples.reach(1) + Samples.reach(SEA, 1, 1)).waits(0, 0), 60);
        Sentences.promise(18, "-2 likewise.");
        noneSuch(x, 1);
    }

    private static void jumps() {
        Sentences.promise(19, "How often it LEAVES by a JOIN (at STEP 60, too).");
        QuotedRiver x = Due.told(TURNS);
        Due.is("once", x.jumps(0, 0), 1);
        Due.is("as told", x.jumps(1, 0), 0);
        Due.is("at 60", x.jumps(0, 60), 1);
        Due.is("close", x.close(1, 1), 0);
        Due.is("at odd STEPS", x.jumps(0, 1), 0);
        Due.is("close", x.close(0, 1), 0);
        Due.is("shut", x.jumps(0, 60), 0);
        Due.is("each time", Due.told(Samples.HIGH + Samples.reach(SEA) + Samples.join(0, 0, 1, 0)).jumps(0, 0), 61);
        // At 0, 9, .. 54; in 1 at the STEP behind it, in 0 again at the next but one.
        Due.is("by turns", Due.told(Samples.HIGH + Samples.reach(0) + Samples.reach(0) + Samples.join(0, 1, 9, 0))
                .jumps(0, 0), 7);
        Sentences.promise(19, "-2 likewise.");
        noneSuch(x, 3);
    }

    private static void finds() {
        Sentences.promise(20, "The REACH into which it comes for the first time latest (its own, if into no other).");
        QuotedRiver x = Due.told(RING);
        Due.is("all round", x.finds(0, 0), 2);
        Due.is("all round", x.finds(1, 0), 0);
        Due.is("from 59", x.finds(0, 59), 1);
        Due.is("from 60: its own", x.finds(1, 60), 1);
        Due.is("into itself: its own", Due.told(Samples.HIGH + Samples.reach(0)).finds(0, 0), 0);
        Due.is("into the sea: its own", Due.told(TURNS).finds(2, 0), 2);
        Due.is("it STANDS: its own", Due.told(Samples.EMPTY + Samples.reach(0) + Samples.reach(0, 1, 1)).finds(1, 0), 1);
        Due.is("ten", Due.told(Samples.HIGH + tenInARow()).finds(0, 0), 9);
        Sentences.promise(20, "-2 likewise.");
        noneSuch(x, 3);
    }

    private static void used() {
        Sentences.promise(36, "JOINS by which a STICK ever LEAVES (at STEP 60, too), as bits.");
        QuotedRiver x = Due.told(TURNS);
        Due.is("at even STEPS", x.used(0, 0), 1);
        Due.is("at odd STEPS", x.used(0, 1), 2);
        Due.is("at 60", x.used(0, 60), 1);
        Due.is("none", x.used(1, 0), 0);
        // At each STEP by the first that goes; the last of five goes at 4 and at 60, where no other does.
        QuotedRiver five = Due.told(Samples.HIGH + Samples.reach(0) + Samples.join(0, 0, 7, 0) + Samples.join(0, 0, 7, 1)
                + Samples.join(0, 0, 7, 2) + Samples.join(0, 0, 7, 3) + Samples.join(0, 0, 8, 4));
        Due.is("all five", five.used(0, 0), 31);
        Due.is("put in at 60", five.used(0, 60), 16);
        Sentences.promise(36, "-2: there are none such (REACH, STEP).");
        noneSuch(x, 3);
    }

    private static void again() {
        Sentences.promise(38, "The first STEP at which it comes into a REACH in which it was already "
                + "(also the one that it LEAVES).");
        QuotedRiver x = Due.told(RING);
        Due.is("round", x.again(0, 0), 3);
        Due.is("round at 60", x.again(0, 57), 60);
        QuotedRiver two = Due.told(Samples.HIGH + Samples.reach(0, 2, 0));
        Due.is("into itself", two.again(0, 0), 2);
        Due.is("into itself at 60", two.again(0, 58), 60);
        Due.is("by a JOIN", Due.told(Samples.HIGH + Samples.reach(SEA) + Samples.join(0, 0, 5, 0)).again(0, 0), 1);
        // 0 to 1 to 2 to 1: into 1 again first, not into the one in which it was put.
        Due.is("into another", Due.told(Samples.HIGH + Samples.reach(1) + Samples.reach(2) + Samples.reach(1)).again(0, 0),
                3);
        Sentences.promise(38, "NONE: at none to 60;");
        Due.is("at 61", x.again(0, 58), -1);
        Due.is("at 61", two.again(0, 59), -1);
        Due.is("in the sea", Due.told(TURNS).again(0, 0), -1);
        Due.is("to stay is not to come", Due.told(Samples.EMPTY + Samples.reach(0, 1, 1)).again(0, 0), -1);
        Sentences.promise(38, "-2 likewise.");
        noneSuch(x, 3);
    }
}
