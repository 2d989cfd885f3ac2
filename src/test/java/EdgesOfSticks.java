/** Promises 21 to 23, 25, 26, 28 to 31, 35 and 37: several STICKS at once, and the course as told. */
final class EdgesOfSticks {
    private static final int[] NO_STEPS = {-1, 61, Integer.MAX_VALUE, Integer.MIN_VALUE};
    private static final int SEA = Samples.SEA;

    /** 0, 1 and 2 to 3, 3 to the sea, and 4 to itself. */
    private static final String STAR = Samples.HIGH + Samples.reach(3).repeat(3) + Samples.reach(SEA) + Samples.reach(4);
    /** Low but at STEP 59: 0 is in 1 at 60; 1 STANDS for good. */
    private static final String LATE = Samples.EMPTY + Samples.reach(1, 1, 1) + Samples.reach(1, 1, 20)
            + Samples.rain(1, 59);
    /** 0 to 1 to 2 to 0; 3 to 0; 4 to none such; 5 to the sea; 6 to itself. */
    private static final String COURSE = Samples.HIGH + Samples.reach(1) + Samples.reach(2) + Samples.reach(0)
            + Samples.reach(0) + Samples.reach(9) + Samples.reach(SEA) + Samples.reach(6);

    private EdgesOfSticks() {
    }

    static void run() {
        from();
        ends();
        meet();
        neverMeet();
        alike();
        busy();
        mouths();
        springs();
        depth();
        rings();
        goes();
        together();
    }

    private static int[] noReaches(int reaches) {
        return new int[] {-1, reaches, 10, Integer.MAX_VALUE, Integer.MIN_VALUE};
    }

    private static void from() {
        Sentences.promise(21, "REACHES such that a STICK put in at STEP 0 is in a REACH at a STEP, as bits.");
        QuotedRiver x = Due.told(STAR);
        for (int reach = 0; reach < 5; reach++) {
            Due.is("at 0 in " + reach, x.from(reach, 0), 1 << reach);
        }
        Due.is("at 1 in 3", x.from(3, 1), 7);
        Due.is("at 1 in 0", x.from(0, 1), 0);
        Due.is("at 2 in 3", x.from(3, 2), 0);
        Due.is("at 60 in 4", x.from(4, 60), 16);
        Due.is("put in at 0 alone", Due.told(LATE).from(1, 59), 2);
        Due.is("at 60", Due.told(LATE).from(1, 60), 3);
        Due.is("ten", Due.told(Samples.HIGH + Samples.reach(9).repeat(10)).from(9, 1), 1023);
        Sentences.promise(21, "-2 likewise.");
        for (int reach : noReaches(5)) {
            Due.is("from " + reach, x.from(reach, 0), -2);
        }
        for (int step : NO_STEPS) {
            Due.is("from at " + step, x.from(0, step), -2);
        }
        Due.is("no REACHES", Due.told(Samples.HIGH).from(0, 0), -2);
        Due.is("no RIVERS", new QuotedRiver().from(0, 0), -2);
    }

    private static void ends() {
        Sentences.promise(22, "REACHES such that one put in at a STEP comes to the sea (to 60), as bits.");
        QuotedRiver x = Due.told(STAR);
        Due.is("at 0", x.ends(0), 15);
        Due.is("in two STEPS to 60", x.ends(58), 15);
        Due.is("in one STEP to 60", x.ends(59), 8);
        Due.is("in none", x.ends(60), 0);
        Due.is("ten", Due.told(Samples.HIGH + Samples.reach(SEA).repeat(10)).ends(59), 1023);
        Due.is("of none", Due.told(Samples.HIGH).ends(0), 0);
        Sentences.promise(22, "-2: there is none such, no RIVERS.");
        for (int step : NO_STEPS) {
            Due.is("ends " + step, x.ends(step), -2);
        }
        Due.is("no RIVERS", new QuotedRiver().ends(0), -2);
    }

    private static void meet() {
        Sentences.promise(23, "MEET: the first STEP at which two put in at STEP 0, in two REACHES (or one twice), "
                + "are in one REACH.");
        QuotedRiver x = Due.told(STAR);
        Due.is("0 and 1", x.meet(0, 1), 1);
        Due.is("2 and 0", x.meet(2, 0), 1);
        Due.is("one twice", x.meet(3, 3), 0);
        Due.is("one twice", x.meet(0, 0), 0);
        Due.is("at 60", Due.told(LATE).meet(0, 1), 60);
        Due.is("at 60", Due.told(LATE).meet(1, 0), 60);
        // 0 is in 1 at 2, where 1 stays to 3; both are in 2 from 4 on, too: the first is 2.
        Due.is("the first", Due.told(Samples.HIGH + Samples.reach(1, 2, 0) + Samples.reach(2, 4, 0) + Samples.reach(2))
                .meet(0, 1), 2);
    }

    private static void neverMeet() {
        Sentences.promise(23, "NONE: at none (also: in the sea);");
        QuotedRiver x = Due.told(STAR);
        Due.is("in the sea both", x.meet(0, 3), -1);
        Due.is("one in the sea", x.meet(0, 4), -1);
        Due.is("in the sea at once both", Due.told(Samples.HIGH + Samples.reach(SEA).repeat(2)).meet(0, 1), -1);
        // At 61 they would be in one.
        Due.is("at 61", Due.told(Samples.EMPTY + Samples.reach(1, 1, 1) + Samples.reach(1, 1, 20) + Samples.rain(1, 60))
                .meet(0, 1), -1);
        Sentences.promise(23, "-2: there are none such.");
        noTwo(x);
    }

    private static void noTwo(QuotedRiver x) {
        for (int reach : noReaches(5)) {
            Due.is("meet " + reach, x.meet(reach, 0), -2);
            Due.is("meet 0 " + reach, x.meet(0, reach), -2);
            Due.is("meet twice " + reach, x.meet(reach, reach), -2);
            Due.is("alike " + reach, x.alike(reach, 0), -2);
            Due.is("alike 0 " + reach, x.alike(0, reach), -2);
            Due.is("alike twice " + reach, x.alike(reach, reach), -2);
        }
        Due.is("meet, no RIVERS", new QuotedRiver().meet(0, 0), -2);
        Due.is("alike, no RIVERS", new QuotedRiver().alike(0, 0), -2);
    }

    private static void alike() {
        Sentences.promise(25, "At how many STEPS two put in at STEP 0, in two REACHES (or one twice), are in one REACH.");
        QuotedRiver x = Due.told(STAR);
        Due.is("0 and 1", x.alike(0, 1), 1);
        Due.is("in the sea", x.alike(0, 3), 0);
        Due.is("one twice, to the sea", x.alike(0, 0), 2);
        Due.is("one twice, for good", x.alike(4, 4), 61);
        Due.is("at 60", Due.told(LATE).alike(0, 1), 1);
        // 1 comes round to itself from 0 on, 0 to it at 1: 1 .. 60.
        Due.is("from 1 on", Due.told(Samples.HIGH + Samples.reach(1).repeat(2)).alike(0, 1), 60);
        Sentences.promise(25, "-2: there are none such.");
        noTwo(x);
    }

    private static void busy() {
        Sentences.promise(26, "Of STICKS put in at STEP 0, one in each REACH: the REACH in which most are at a STEP, "
                + "the first of several.");
        QuotedRiver x = Due.told(STAR);
        Due.is("one each: the first", x.busy(0), 0);
        Due.is("three of five", x.busy(1), 3);
        Due.is("the one that is left", x.busy(2), 4);
        Due.is("at 60", x.busy(60), 4);
        // Two in 2 and two in 3 at 1: the first.
        QuotedRiver two = Due.told(Samples.HIGH + Samples.reach(3) + Samples.reach(2) + Samples.reach(3)
                + Samples.reach(2));
        Due.is("two and two", two.busy(1), 2);
        Due.is("the last of ten", Due.told(Samples.HIGH + Samples.reach(9).repeat(10)).busy(1), 9);
        Sentences.promise(26, "NONE: none is in any;");
        Due.is("all in the sea", Due.told(Samples.HIGH + Samples.reach(SEA).repeat(10)).busy(1), -1);
        Due.is("no REACHES", Due.told(Samples.HIGH).busy(0), -1);
        Sentences.promise(26, "-2: there is none such, no RIVERS.");
        for (int step : NO_STEPS) {
            Due.is("busy " + step, x.busy(step), -2);
        }
        Due.is("no RIVERS", new QuotedRiver().busy(0), -2);
    }

    private static void mouths() {
        Sentences.promise(28, "REACHES that flow into the sea as told, as bits.");
        Due.is("by the word and by no such", Due.told(COURSE).mouths(), 48);
        Due.is("the first", Due.told(Samples.HIGH + Samples.reach(SEA) + Samples.reach(0)).mouths(), 1);
        Due.is("all ten", Due.told(Samples.HIGH + Samples.reach(SEA).repeat(10)).mouths(), 1023);
        Due.is("none", Due.told(Samples.HIGH + Samples.reach(0)).mouths(), 0);
        Due.is("no REACHES", Due.told(Samples.HIGH).mouths(), 0);
        // A JOIN that always goes, and LEVEL, change nothing.
        Due.is("as told", Due.told(Samples.EMPTY + Samples.reach(SEA, 1, 20) + Samples.join(0, 0, 1, 0)).mouths(), 1);
        Sentences.promise(28, "-2: there are no RIVERS.");
        Due.is("no RIVERS", new QuotedRiver().mouths(), -2);
    }

    private static void springs() {
        Sentences.promise(29, "REACHES into which none flows as told, nor a JOIN goes, as bits.");
        Due.is("into 3, 4 and 5 none", Due.told(COURSE).springs(), 56);
        Due.is("the first of two JOINS", Due.told(COURSE + Samples.join(4, 5, 9, 8) + Samples.join(4, 3, 9, 8)).springs(),
                16);
        Due.is("itself", Due.told(Samples.HIGH + Samples.reach(0)).springs(), 0);
        Due.is("a JOIN from itself", Due.told(Samples.HIGH + Samples.reach(SEA) + Samples.join(0, 0, 1, 0)).springs(), 0);
        Due.is("the first", Due.told(Samples.HIGH + Samples.reach(SEA)).springs(), 1);
        Due.is("all ten", Due.told(Samples.HIGH + Samples.reach(SEA).repeat(10)).springs(), 1023);
        Due.is("no REACHES", Due.told(Samples.HIGH).springs(), 0);
        QuotedRiver x = Due.told(COURSE + Samples.join(4, 5, 9, 8));
        Due.is("close", x.close(0, 1), 0);
        Due.is("as told, shut or not", x.springs(), 24);
        Sentences.promise(29, "-2 likewise.");
        Due.is("no RIVERS", new QuotedRiver().springs(), -2);
    }

    private static void depth() {
        Sentences.promise(30, "How many REACHES there are to the sea as told (JOINS aside), a REACH with them.");
        StringBuilder ten = new StringBuilder(Samples.HIGH + Samples.reach(SEA));
        for (int to = 0; to < 9; to++) {
            ten.append(Samples.reach(to));
        }
        QuotedRiver x = Due.told(ten + Samples.join(9, 0, 1, 0) + Samples.join(0, 0, 1, 0));
        for (int reach = 0; reach < 10; reach++) {
            Due.is("depth " + reach, x.depth(reach), reach + 1);
        }
        Due.is("to none such", Due.told(COURSE).depth(4), 1);
        Sentences.promise(30, "NONE: it goes round;");
        QuotedRiver course = Due.told(COURSE + Samples.join(0, 5, 1, 0));
        Due.is("in a ring", course.depth(0), -1);
        Due.is("into a ring", course.depth(3), -1);
        Due.is("into itself", course.depth(6), -1);
        Sentences.promise(30, "-2: there is none such.");
        for (int reach : noReaches(7)) {
            Due.is("depth " + reach, course.depth(reach), -2);
        }
        Due.is("no RIVERS", new QuotedRiver().depth(0), -2);
    }

    private static void rings() {
        Sentences.promise(31, "REACHES to which one comes again from them as told (JOINS aside), as bits.");
        Due.is("not what flows into a ring", Due.told(COURSE).rings(), 71);
        StringBuilder ten = new StringBuilder(Samples.HIGH + Samples.reach(9));
        for (int to = 0; to < 9; to++) {
            ten.append(Samples.reach(to));
        }
        Due.is("ten in one", Due.told(ten.toString()).rings(), 1023);
        Due.is("itself", Due.told(Samples.HIGH + Samples.reach(0)).rings(), 1);
        Due.is("by a JOIN alone", Due.told(Samples.HIGH + Samples.reach(SEA) + Samples.join(0, 0, 1, 0)).rings(), 0);
        Due.is("no REACHES", Due.told(Samples.HIGH).rings(), 0);
        Sentences.promise(31, "-2: there are no RIVERS.");
        Due.is("no RIVERS", new QuotedRiver().rings(), -2);
    }

    private static void goes() {
        Sentences.promise(35, "1 if a JOIN is not shut and goes at a STEP (III), else 0.");
        QuotedRiver x = Due.told(Samples.HIGH + Samples.reach(SEA) + Samples.join(0, 0, 1, 0) + Samples.join(0, 0, 9, 8)
                + Samples.join(0, 0, 2, 0));
        for (int step = 0; step <= 60; step++) {
            Due.is("of 1 at " + step, x.goes(0, step), 1);
            Due.is("of 9 at " + step, x.goes(1, step), step % 9 == 8 ? 1 : 0);
        }
        Due.is("of 2 at 60, behind another that goes", x.goes(2, 60), 1);
        Due.is("of 2 at 59", x.goes(2, 59), 0);
        Due.is("close", x.close(0, 1), 0);
        Due.is("shut", x.goes(0, 60), 0);
        Due.is("the others are not", x.goes(2, 60), 1);
        Due.is("open", x.close(0, 0), 1);
        Due.is("open", x.goes(0, 60), 1);
        Sentences.promise(35, "-2: there are none such.");
        for (int join : new int[] {-1, 3, 5, Integer.MAX_VALUE, Integer.MIN_VALUE}) {
            Due.is("goes " + join, x.goes(join, 0), -2);
        }
        for (int step : NO_STEPS) {
            Due.is("goes at " + step, x.goes(0, step), -2);
        }
        Due.is("no RIVERS", new QuotedRiver().goes(0, 0), -2);
    }

    private static void together() {
        Sentences.promise(37, "REACHES (it, too) such that a STICK put in there at that STEP is at STEP 60 where it is "
                + "(the sea, too), as bits.");
        QuotedRiver x = Due.told(STAR);
        Due.is("in the sea", x.together(0, 0), 15);
        Due.is("in the sea at 60", x.together(3, 58), 15);
        Due.is("in 3", x.together(0, 59), 7);
        Due.is("in the sea alone", x.together(3, 59), 8);
        Due.is("it alone", x.together(2, 60), 4);
        Due.is("it alone", x.together(4, 0), 16);
        Due.is("it and what comes at 60", Due.told(LATE).together(1, 0), 3);
        Due.is("at that STEP", Due.told(LATE).together(1, 60), 2);
        Sentences.promise(37, "-2 likewise.");
        for (int reach : noReaches(5)) {
            Due.is("together " + reach, x.together(reach, 0), -2);
        }
        for (int step : NO_STEPS) {
            Due.is("together at " + step, x.together(0, step), -2);
        }
        Due.is("no RIVERS", new QuotedRiver().together(0, 0), -2);
    }
}
