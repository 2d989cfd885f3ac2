/** Term IV and promises 39, 40 and 43 to 51: STICKS put in at any STEP, what stops them and what helps them. */
final class EdgesOfAnyStep {
    private static final int[] NO_STEPS = {-1, 61, Integer.MAX_VALUE, Integer.MIN_VALUE};
    private static final int SEA = Samples.SEA;
    private static final String LOW_ONE = Samples.reach(1, 1, 1) + Samples.reach(1, 1, 20) + Samples.reach(SEA);

    /** From 0 to 1, which keeps all, at STEP 0 alone; 2 is away from both. */
    private static final String FIRST = Samples.rivers(1) + LOW_ONE;
    /** At STEP 5 alone. */
    private static final String FIFTH = Samples.EMPTY + LOW_ONE + Samples.rain(1, 5);
    /** At STEP 59 alone. */
    private static final String LAST = Samples.EMPTY + LOW_ONE + Samples.rain(1, 59);
    /** Put in at 0 .. 58 it is in the sea at 59, at 59 alone it is by the JOIN in 1 at 60. */
    private static final String ONLY_LAST = Samples.EMPTY + Samples.reach(SEA, 1, 1) + Samples.reach(SEA)
            + Samples.join(0, 1, 2, 1) + Samples.rain(1, 58) + Samples.rain(1, 59);
    /** Put in at 0 .. 57 it is in the sea at 58, at 58 alone it is by the JOIN in 1 at 59 and in 2 at 60. */
    private static final String LAST_BUT_ONE = Samples.EMPTY + Samples.reach(SEA, 1, 1) + Samples.reach(2)
            + Samples.reach(SEA) + Samples.join(0, 1, 2, 0) + Samples.rain(1, 57) + Samples.rain(1, 58);
    /** Carried at 1, 3, 8 and 9, twice from 0 to 1: put in at 0 and 1 it is there at 4, at 2 and 3 at 9, at 4 .. 8 at 10. */
    private static final String TWICE = Samples.EMPTY + Samples.reach(1, 2, 1) + Samples.reach(1, 1, 20)
            + Samples.rain(1, 1) + Samples.rain(1, 3) + Samples.rain(2, 8);
    /** 0 to 1, 2 or 3 at STEP 0, 1 or 2 modulo 3, these to 4, 4 to 5, 5 to the sea. */
    private static final String FORK = Samples.HIGH + Samples.reach(1) + Samples.reach(4).repeat(3) + Samples.reach(5)
            + Samples.reach(SEA) + Samples.join(0, 2, 3, 1) + Samples.join(0, 3, 3, 2);

    private EdgesOfAnyStep() {
    }

    static void run() {
        can();
        slowly();
        soon();
        quick();
        quickly();
        late();
        often();
        stopped();
        stop();
        stopNone();
        stops();
        shut();
        shutNone();
        pour();
        pourNone();
    }

    /** Of two REACHES, each of which must be one. */
    private static void noTwo(QuotedRiver x, int reaches) {
        for (int none : new int[] {-1, reaches, 10, Integer.MAX_VALUE, Integer.MIN_VALUE}) {
            ofTwo(x, none, 0);
            ofTwo(x, 0, none);
            ofTwo(x, none, none);
        }
        ofTwo(new QuotedRiver(), 0, 0);
        ofTwo(Due.told(Samples.HIGH), 0, 0);
    }

    private static void ofTwo(QuotedRiver x, int reach, int other) {
        String of = " " + reach + " " + other;
        Due.is("slowly" + of, x.slowly(reach, other), -2);
        Due.is("soon" + of, x.soon(reach, other), -2);
        Due.is("quick" + of, x.quick(reach, other), -2);
        Due.is("quickly" + of, x.quickly(reach, other), -2);
        Due.is("late" + of, x.late(reach, other, 0), -2);
        Due.is("often" + of, x.often(reach, other), -2);
        Due.is("stop" + of, x.stop(reach, other), -2);
        Due.is("stops" + of, x.stops(reach, other), -2);
    }

    private static void can() {
        Sentences.promise(39, "REACHES into which some STICK put in a REACH (at any STEP) ever comes, it, too, as bits.");
        Due.is("at 0 alone", Due.told(FIRST).can(0), 3);
        Due.is("at 5 alone", Due.told(FIFTH).can(0), 3);
        Due.is("at 59", Due.told(LAST).can(0), 3);
        Due.is("at 59 alone", Due.told(ONLY_LAST).can(0), 3);
        Due.is("at 58 alone", Due.told(LAST_BUT_ONE).can(0), 7);
        Due.is("at 60 alone", Due.told(Samples.EMPTY + LOW_ONE + Samples.rain(1, 60)).can(0), 1);
        Due.is("it, too", Due.told(FIRST).can(2), 4);
        QuotedRiver fork = Due.told(FORK);
        Due.is("some by each", fork.can(0), 63);
        Due.is("close", fork.close(0, 1), 0);
        Due.is("acts as now", fork.can(0), 59);
        Sentences.promise(39, "-2: there is none such.");
        for (int none : new int[] {-1, 6, 10, Integer.MAX_VALUE, Integer.MIN_VALUE}) {
            Due.is("can " + none, fork.can(none), -2);
        }
        Due.is("no REACHES", Due.told(Samples.HIGH).can(0), -2);
        Due.is("no RIVERS", new QuotedRiver().can(0), -2);
    }

    private static void slowly() {
        Sentences.promise(40, "The most STEPS in which one put in a REACH at any STEP, that comes to another one, does.");
        Due.is("at 0 alone", Due.told(FIRST).slowly(0, 1), 1);
        Due.is("from 0 to 6", Due.told(FIFTH).slowly(0, 1), 6);
        Due.is("from 0 to 60", Due.told(LAST).slowly(0, 1), 60);
        Due.is("from 59", Due.told(ONLY_LAST).slowly(0, 1), 1);
        Due.is("from 58", Due.told(LAST_BUT_ONE).slowly(0, 2), 2);
        Due.is("to itself", Due.told(LAST).slowly(0, 0), 0);
        // Put in at 1 .. 10 it comes at 11, at 0 at 1.
        Due.is("from 1 to 11", Due.told(Samples.rivers(1) + LOW_ONE + Samples.rain(1, 10)).slowly(0, 1), 10);
        Sentences.promise(40, "NONE: none does;");
        Due.is("never", Due.told(FIRST).slowly(0, 2), -1);
        Due.is("at 61", Due.told(Samples.EMPTY + LOW_ONE + Samples.rain(1, 60)).slowly(0, 1), -1);
        Sentences.promise(40, "-2: there are none such.");
        noTwo(Due.told(FIRST), 3);
    }

    private static void soon() {
        Sentences.promise(43, "SOON: the STEP at which to put one in a REACH so that it comes to another one at the "
                + "earliest STEP, the latest of several.");
        Due.is("at 0 alone", Due.told(FIRST).soon(0, 1), 0);
        Due.is("of 0 .. 5", Due.told(FIFTH).soon(0, 1), 5);
        Due.is("of 0 .. 59", Due.told(LAST).soon(0, 1), 59);
        Due.is("at 59 alone", Due.told(ONLY_LAST).soon(0, 1), 59);
        Due.is("to itself", Due.told(LAST).soon(0, 0), 0);
        // Not the STEP from which it is quickest.
        Due.is("the earliest", Due.told(TWICE).soon(0, 1), 1);
        Sentences.promise(43, "NONE: at none;");
        Due.is("never", Due.told(FIRST).soon(0, 2), -1);
        Due.is("at 61", Due.told(Samples.EMPTY + LOW_ONE + Samples.rain(1, 60)).soon(0, 1), -1);
        Sentences.promise(43, "-2: there are none such.");
        noTwo(Due.told(FIRST), 3);
    }

    private static void quick() {
        Sentences.promise(44, "QUICK: the fewest STEPS in which one put in a REACH at any STEP comes to another one.");
        Due.is("at 0 alone", Due.told(FIRST).quick(0, 1), 1);
        Due.is("from 5", Due.told(FIFTH).quick(0, 1), 1);
        Due.is("from 59", Due.told(LAST).quick(0, 1), 1);
        Due.is("from 59 alone", Due.told(ONLY_LAST).quick(0, 1), 1);
        Due.is("from 58 alone", Due.told(LAST_BUT_ONE).quick(0, 2), 2);
        Due.is("to itself", Due.told(LAST).quick(0, 0), 0);
        Due.is("from 8 to 10", Due.told(TWICE).quick(0, 1), 2);
        Sentences.promise(44, "NONE: it never does;");
        Due.is("never", Due.told(FIRST).quick(0, 2), -1);
        Due.is("at 61", Due.told(Samples.EMPTY + LOW_ONE + Samples.rain(1, 60)).quick(0, 1), -1);
        Sentences.promise(44, "-2 likewise.");
        noTwo(Due.told(FIRST), 3);
    }

    private static void quickly() {
        Sentences.promise(45, "The first STEP at which to put it in so that it is so quick.");
        Due.is("at 0 alone", Due.told(FIRST).quickly(0, 1), 0);
        Due.is("at 5", Due.told(FIFTH).quickly(0, 1), 5);
        Due.is("at 59", Due.told(LAST).quickly(0, 1), 59);
        Due.is("at 59 alone", Due.told(ONLY_LAST).quickly(0, 1), 59);
        Due.is("the first of all", Due.told(FORK).quickly(0, 4), 0);
        Due.is("the first of each third", Due.told(FORK).quickly(0, 3), 2);
        Due.is("to itself", Due.told(LAST).quickly(0, 0), 0);
        Due.is("at 8", Due.told(TWICE).quickly(0, 1), 8);
        Sentences.promise(45, "NONE, -2 likewise.");
        Due.is("never", Due.told(FIRST).quickly(0, 2), -1);
        Due.is("at 61", Due.told(Samples.EMPTY + LOW_ONE + Samples.rain(1, 60)).quickly(0, 1), -1);
        noTwo(Due.told(FIRST), 3);
    }

    private static void late() {
        Sentences.promise(46, "The last STEP at which to put one in a REACH so that it is in another one at a STEP told.");
        QuotedRiver fifth = Due.told(FIFTH);
        Due.is("in 1 at 6", fifth.late(0, 1, 6), 5);
        Due.is("in 1 at 60", fifth.late(0, 1, 60), 5);
        Due.is("in 1 at 1", Due.told(FIRST).late(0, 1, 1), 0);
        Due.is("in 1 at 60", Due.told(LAST).late(0, 1, 60), 59);
        Due.is("at 59 alone", Due.told(ONLY_LAST).late(0, 1, 60), 59);
        Due.is("in itself", fifth.late(0, 0, 60), 60);
        Due.is("in itself at 0", fifth.late(0, 0, 0), 0);
        // It goes through 3: in 3 at 4 it was put in at 2, and at no other STEP.
        Due.is("in 4 at 4", Due.told(FORK).late(0, 4, 4), 2);
        Due.is("in 3 at 3", Due.told(FORK).late(0, 3, 3), 2);
        Sentences.promise(46, "NONE: at none;");
        Due.is("in 3 at 4", Due.told(FORK).late(0, 3, 4), -1);
        Due.is("in 1 at 5", fifth.late(0, 1, 5), -1);
        Due.is("in 1 at 0", fifth.late(0, 1, 0), -1);
        Due.is("never", fifth.late(0, 2, 60), -1);
        Sentences.promise(46, "-2: there are none such.");
        noTwo(Due.told(FIRST), 3);
        for (int then : NO_STEPS) {
            Due.is("late at " + then, fifth.late(0, 0, then), -2);
        }
    }

    private static void often() {
        Sentences.promise(47, "At how many STEPS (0 .. 60) one put in a REACH comes to another one.");
        Due.is("0", Due.told(FIRST).often(0, 1), 1);
        Due.is("0 .. 5", Due.told(FIFTH).often(0, 1), 6);
        Due.is("0 .. 59", Due.told(LAST).often(0, 1), 60);
        Due.is("59", Due.told(ONLY_LAST).often(0, 1), 1);
        Due.is("0 .. 60", Due.told(LAST).often(0, 0), 61);
        Due.is("at none", Due.told(FIRST).often(0, 2), 0);
        // By 3 at 2, 5, .. 59; to 4 at 0 .. 58.
        Due.is("each third", Due.told(FORK).often(0, 3), 20);
        Due.is("by two", Due.told(FORK).often(0, 4), 59);
        Sentences.promise(47, "-2: there are none such.");
        noTwo(Due.told(FIRST), 3);
    }

    // Term IV.

    private static void stopped() {
        Sentences.term("IV", "STOPPED REACHES: what would come into one stays out for good (in none any more, nor the "
                + "sea); put in there it is in none.");
        // From 0 at STEP 0 alone: in 2 at 1, in 1 at 2, in 3 at 3. If it stayed in 2 while 1 is STOPPED, it would come
        // to 3 by the JOIN at 9; then the least set would be 2 alone.
        QuotedRiver x = Due.told(Samples.rivers(1) + Samples.reach(2, 1, 1) + Samples.reach(3) + Samples.reach(1)
                + Samples.reach(SEA) + Samples.join(2, 3, 9, 0));
        Due.is("stop", x.stop(0, 3), 1);
        Due.is("stops", x.stops(0, 3), 2);
        Due.is("from 2 by the JOIN, too", x.stop(2, 3), -1);
    }

    private static void stop() {
        Sentences.promise(48, "STOP: the fewest REACHES STOPPED (IV; neither of the two) so that no STICK put in a REACH, "
                + "at any STEP, comes to another one.");
        QuotedRiver fork = Due.told(FORK);
        Due.is("each third", fork.stop(0, 4), 3);
        Due.is("behind them", fork.stop(0, 5), 1);
        Due.is("not itself", fork.stop(1, 5), 1);
        Due.is("none does", fork.stop(5, 0), 0);
        Due.is("none does", fork.stop(1, 2), 0);
        Due.is("close", fork.close(1, 1), 0);
        Due.is("two are left", fork.stop(0, 4), 2);
        // By 1 at STEP 0 alone, at 5 alone, at 58 alone; at 59 it is in 1 at 60, and in 2 no more.
        String low = Samples.reach(1, 1, 1) + Samples.reach(2) + Samples.reach(SEA);
        Due.is("at 0 alone", Due.told(Samples.rivers(1) + low).stop(0, 2), 1);
        Due.is("at 5 alone", Due.told(Samples.EMPTY + low + Samples.rain(1, 5)).stop(0, 2), 1);
        Due.is("at 58 alone", Due.told(Samples.EMPTY + low + Samples.rain(1, 58)).stop(0, 2), 1);
        Due.is("at 59: at 61", Due.told(Samples.EMPTY + low + Samples.rain(1, 59)).stop(0, 2), 0);
        Due.is("put in at 58 alone", Due.told(LAST_BUT_ONE).stop(0, 2), 1);
        // Six side by side.
        Due.is("by five JOINS and as told", Due.told(Samples.HIGH + Samples.reach(1) + Samples.reach(7).repeat(6)
                + Samples.reach(SEA) + Samples.join(0, 2, 7, 1) + Samples.join(0, 3, 7, 2) + Samples.join(0, 4, 7, 3)
                + Samples.join(0, 5, 7, 4) + Samples.join(0, 6, 7, 5)).stop(0, 7), 6);
    }

    private static void stopNone() {
        Sentences.promise(48, "NONE: by none (one twice, too);");
        QuotedRiver fork = Due.told(FORK);
        Due.is("straight", fork.stop(0, 1), -1);
        Due.is("straight by a JOIN", fork.stop(0, 2), -1);
        Due.is("one twice", fork.stop(0, 0), -1);
        Due.is("one twice", fork.stop(5, 5), -1);
        // Straight from 0 at STEP 59 alone.
        Due.is("straight at 59", Due.told(LAST).stop(0, 1), -1);
        Due.is("straight, put in at 59 alone", Due.told(ONLY_LAST).stop(0, 1), -1);
        Due.is("straight at 60", Due.told(Samples.EMPTY + LOW_ONE + Samples.rain(1, 60)).stop(0, 1), 0);
        Sentences.promise(48, "-2: there are none such.");
        noTwo(Due.told(FIRST), 3);
    }

    private static void stops() {
        Sentences.promise(49, "Which, as bits: the least set of so few.");
        QuotedRiver fork = Due.told(FORK);
        Due.is("each third", fork.stops(0, 4), 14);
        Due.is("the one behind them", fork.stops(0, 5), 16);
        Due.is("of 4 alone", fork.stops(2, 5), 16);
        Due.is("none does", fork.stops(5, 0), 0);
        Due.is("put in at 58 alone", Due.told(LAST_BUT_ONE).stops(0, 2), 2);
        // 0 to 4 to 3 to 2 to 1: one of three, the least is 2; to 2 one of two, the least is 3.
        QuotedRiver row = Due.told(Samples.HIGH + Samples.reach(4) + Samples.reach(SEA) + Samples.reach(1)
                + Samples.reach(2) + Samples.reach(3));
        Due.is("of three", row.stops(0, 1), 4);
        Due.is("of two", row.stops(0, 2), 8);
        Due.is("of one", row.stops(0, 3), 16);
        // The last of ten.
        Due.is("9", Due.told(Samples.HIGH + Samples.reach(9) + Samples.reach(SEA).repeat(8) + Samples.reach(1))
                .stops(0, 1), 512);
        Sentences.promise(49, "NONE, -2 likewise.");
        Due.is("straight", fork.stops(0, 1), -1);
        Due.is("one twice", fork.stops(3, 3), -1);
        noTwo(Due.told(FIRST), 3);
    }

    private static void shut() {
        Sentences.promise(50, "SHUT: the JOIN without which sea() of a STICK is soonest, if sooner than now (never is "
                + "latest), the first of several.");
        // 0 to the sea, but by JOINS: to 1 (takes 3), else to 2 (takes 2), else to 3 (takes 1).
        String sides = Samples.HIGH + Samples.reach(SEA) + Samples.reach(SEA, 3, 0) + Samples.reach(SEA, 2, 0)
                + Samples.reach(SEA);
        QuotedRiver x = Due.told(sides + Samples.join(0, 1, 1, 0) + Samples.join(0, 2, 1, 0) + Samples.join(0, 3, 1, 0));
        Due.is("sea", x.sea(0, 0), 4);
        Due.is("sooner by one", x.shut(0, 0), 0);
        Due.is("close", x.close(0, 1), 0);
        Due.is("one is shut: the next", x.shut(0, 0), 1);
        Due.is("close", x.close(1, 1), 0);
        Due.is("the last", x.shut(0, 0), 2);
        // Never is latest: with it in 0 for good, without it in the sea at once.
        QuotedRiver round = Due.told(Samples.HIGH + Samples.reach(SEA) + Samples.join(0, 0, 1, 0));
        Due.is("never now", round.sea(0, 0), -1);
        Due.is("without", round.shut(0, 0), 0);
        Due.is("by 60", round.shut(0, 59), 0);
        Due.is("not by 60", round.shut(0, 60), -1);
        // In 1 and 2 it waits, a STEP each: without the one as without the other, the first; and the soonest of both.
        String two = Samples.HIGH + Samples.reach(3) + Samples.reach(SEA).repeat(3);
        Due.is("the first of two", Due.told(two + Samples.join(1, 2, 1, 0) + Samples.join(0, 1, 1, 0)).shut(0, 0), 0);
        Due.is("the first of two", Due.told(two + Samples.join(0, 1, 1, 0) + Samples.join(1, 2, 1, 0)).shut(0, 0), 0);
        QuotedRiver soonest = Due.told(Samples.HIGH + Samples.reach(SEA) + Samples.reach(SEA) + Samples.reach(SEA, 3, 0)
                + Samples.join(1, 2, 1, 0) + Samples.join(0, 1, 1, 0));
        Due.is("sea", soonest.sea(0, 0), 5);
        Due.is("without 0 at 2, without 1 at 1", soonest.shut(0, 0), 1);
        // Without the first at 8, by two REACHES; without the second at 3, by one: the soonest, not the fewest.
        QuotedRiver takes = Due.told(Samples.HIGH + Samples.reach(SEA, 3, 0) + Samples.reach(SEA, 5, 0)
                + Samples.reach(SEA, 5, 0) + Samples.join(1, 2, 1, 0) + Samples.join(0, 1, 1, 0));
        Due.is("sea", takes.sea(0, 0), 13);
        Due.is("without the second", takes.shut(0, 0), 1);
        // 0 goes at STEPS 0 .. 2, 30 and 31, by the JOIN into 1, which STANDS for good.
        QuotedRiver low = Due.told(Samples.rivers(3) + Samples.reach(SEA, 1, 1) + Samples.reach(SEA, 1, 20)
                + Samples.join(0, 1, 1, 0) + Samples.rain(2, 30));
        Due.is("LEVEL as it is", low.shut(0, 0), 0);
        Due.is("LEVEL as it is", low.shut(0, 2), 0);
        Due.is("LEVEL as it is", low.shut(0, 31), 0);
        Due.is("too low for both", low.shut(0, 32), -1);
        // The fifth one.
        Due.is("the fifth", Due.told(two + Samples.join(1, 1, 1, 0).repeat(4) + Samples.join(0, 1, 1, 0)).shut(0, 0), 4);
    }

    private static void shutNone() {
        Sentences.promise(50, "NONE: none;");
        QuotedRiver x = Due.told(Samples.HIGH + Samples.reach(1) + Samples.reach(SEA) + Samples.reach(SEA)
                + Samples.join(0, 2, 1, 0));
        Due.is("as soon without", x.shut(0, 0), -1);
        Due.is("not on its way", x.shut(1, 0), -1);
        Due.is("no JOINS", Due.told(Samples.HIGH + Samples.reach(SEA)).shut(0, 0), -1);
        // Later without it, and never without it.
        Due.is("later", Due.told(Samples.HIGH + Samples.reach(1) + Samples.reach(2) + Samples.reach(SEA)
                + Samples.join(0, 2, 1, 0)).shut(0, 0), -1);
        Due.is("never", Due.told(Samples.HIGH + Samples.reach(0) + Samples.reach(SEA) + Samples.join(0, 1, 1, 0))
                .shut(0, 0), -1);
        Due.is("never with it, never without", Due.told(Samples.HIGH + Samples.reach(0) + Samples.join(0, 0, 1, 0))
                .shut(0, 0), -1);
        QuotedRiver shut = Due.told(Samples.HIGH + Samples.reach(SEA) + Samples.join(0, 0, 1, 0));
        Due.is("close", shut.close(0, 1), 0);
        Due.is("shut already", shut.shut(0, 0), -1);
        Due.is("it stays as it is", shut.goes(0, 0), 0);
        Sentences.promise(50, "-2 likewise as sea().");
        for (int reach : new int[] {-1, 3, 10, Integer.MAX_VALUE, Integer.MIN_VALUE}) {
            Due.is("shut " + reach, x.shut(reach, 0), -2);
        }
        for (int step : NO_STEPS) {
            Due.is("shut at " + step, x.shut(0, step), -2);
        }
        Due.is("no RIVERS", new QuotedRiver().shut(0, 0), -2);
    }

    private static void pour() {
        Sentences.promise(51, "POUR: the least rain (0 .. 60) at a STEP (the third) besides by which a STICK, put in as "
                + "the first two tell, comes to the sea by STEP 60.");
        // At LEVEL 0 with low 20, takes 1: 20 at the STEP at which it is, one more for each STEP ahead of it.
        QuotedRiver x = Due.told(Samples.EMPTY + Samples.reach(SEA, 1, 20) + Samples.reach(SEA));
        Due.is("none is needed", x.pour(1, 0, 0), 0);
        Due.is("none is needed, by 60", x.pour(1, 59, 60), 0);
        Due.is("20 at once", x.pour(0, 0, 0), 20);
        Due.is("later", x.pour(0, 0, 30), 20);
        Due.is("by 60", x.pour(0, 59, 59), 20);
        Due.is("59 at 20", x.pour(0, 59, 20), 59);
        Due.is("60 at 19", x.pour(0, 59, 19), 60);
        Due.is("nothing was done", x.level(19), 0);
        Due.is("no act", x.count(6), 0);
        // It comes besides what was told and poured.
        QuotedRiver more = Due.told(Samples.EMPTY + Samples.reach(SEA, 1, 20) + Samples.rain(5, 7));
        Due.is("besides 5 told", more.pour(0, 0, 7), 15);
        Due.is("pours", more.pours(7, 6), 11);
        Due.is("besides 11", more.pour(0, 0, 7), 9);
    }

    private static void pourNone() {
        Sentences.promise(51, "NONE: by none;");
        QuotedRiver x = Due.told(Samples.EMPTY + Samples.reach(SEA, 1, 20) + Samples.reach(1));
        Due.is("61 at 18", x.pour(0, 59, 18), -1);
        Due.is("too late", x.pour(0, 0, 60), -1);
        Due.is("put in at 60", x.pour(0, 60, 60), -1);
        Due.is("behind its STEPS", x.pour(0, 59, 60), -1);
        Due.is("it goes round", x.pour(1, 0, 0), -1);
        Sentences.promise(51, "-2: there are none such.");
        for (int reach : new int[] {-1, 2, 10, Integer.MAX_VALUE, Integer.MIN_VALUE}) {
            Due.is("pour " + reach, x.pour(reach, 0, 0), -2);
        }
        for (int step : NO_STEPS) {
            Due.is("pour put in at " + step, x.pour(0, step, 0), -2);
            Due.is("pour at " + step, x.pour(0, 0, step), -2);
        }
        Due.is("no RIVERS", new QuotedRiver().pour(0, 0, 0), -2);
    }
}
