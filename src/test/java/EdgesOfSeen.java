/** Terms V and VI and promises 52 to 58: where a STICK was put in, and by which turn a JOIN goes. */
final class EdgesOfSeen {
    private static final int SEA = Samples.SEA;

    /** 0 to 1 to 2 to 0 and so on, a STEP each. */
    private static final String RING = Samples.HIGH + Samples.reach(1) + Samples.reach(2) + Samples.reach(0);
    /** 0 keeps all but what the JOIN takes to 1, which keeps it. */
    private static final String TURN = Samples.HIGH + Samples.reach(0) + Samples.reach(1) + Samples.join(0, 1, 5, 3);
    /** In 3 at 2: 0 put in at 0, 1 and 2 at 1, and 3 at 2. */
    private static final String FOUR_WAYS = Samples.HIGH + Samples.reach(3, 2, 0) + Samples.reach(3).repeat(2)
            + Samples.reach(SEA);
    /** Carried at 0 .. 3 and 57 .. 59: from 0 (five) to 1 (two) to the sea. */
    private static final String LAST_TELLS = Samples.rivers(4) + Samples.reach(1, 5, 1) + Samples.reach(SEA, 2, 1)
            + Samples.rain(3, 57);

    private EdgesOfSeen() {
    }

    static void run() {
        seen();
        turns();
        fits();
        fitsRefused();
        nothing();
        sources();
        source();
        ask();
        askNone();
        doubts();
        turn();
        turned();
    }

    /** A new object of a text with a row in SLOT 0. */
    private static QuotedRiver seen(String text, long... row) {
        QuotedRiver x = Due.told(text);
        Due.row(x, 0, 0, row);
        return x;
    }

    // Terms V and VI.

    private static void seen() {
        Sentences.term("V", "SEEN: a SLOT's row, two numbers each: a STEP, a REACH in which a STICK was then: pairs of a "
                + "REACH and a STEP (0 .. 60, no later than any told) in which it can have been put in.");
        // In 1 at 5: one REACH for each STEP 0 .. 5.
        Due.is("a STEP, a REACH", seen(RING, 5, 1).fits(0), 6);
        Due.is("at 0", seen(RING, 0, 1).fits(0), 1);
        Due.is("at 0", seen(RING, 0, 1).source(0), 100);
        Due.is("at 60", seen(RING, 60, 1).fits(0), 61);
        // The STEPS told in any order: none later than the first of them.
        Due.is("5, then 8", seen(RING, 5, 1, 8, 1).fits(0), 6);
        Due.is("8, then 5", seen(RING, 8, 1, 5, 1).fits(0), 6);
        Due.is("60, 0 and 30", seen(RING, 60, 0, 0, 0, 30, 0).fits(0), 1);
        Due.is("in two at once", seen(RING, 5, 1, 5, 2).fits(0), 0);
        Due.is("in two, one behind the other", seen(RING, 5, 1, 6, 2).fits(0), 6);
        Due.is("in two, not so", seen(RING, 5, 1, 6, 1).fits(0), 0);
        Due.is("none told: all", seen(RING).fits(0), 183);
        // Where it STANDS it is, too; in the sea it is in none.
        Due.is("it STANDS", seen(Samples.EMPTY + Samples.reach(SEA, 1, 1), 60, 0).fits(0), 61);
        Due.is("to the sea", seen(Samples.HIGH + Samples.reach(SEA), 60, 0).fits(0), 1);
    }

    private static void turns() {
        Sentences.term("VI", "TURN: of a JOIN each and at told otherwise (each 1 .. 9, at below it): by how many such "
                + "pairs a STICK put in at STEP 0 is where a SLOT's row tells, as V.");
        // In 1 at 1: at 0 of any each. In 0 at 1: not at 0. In 0 at 8 and in 1 at 9: for the first time at 8.
        Due.is("at 0", seen(TURN, 1, 1).turn(0, 0, 0), 9);
        Due.is("not at 0", seen(TURN, 1, 0).turn(0, 0, 0), 36);
        Due.is("at 8 of 9", seen(TURN, 8, 0, 9, 1).turn(0, 0, 0), 1);
        Due.is("at 8 of 9", seen(TURN, 9, 1, 8, 0).turned(0, 0, 0), 98);
        Due.is("at 3 of more: as it is told, too", seen(TURN, 3, 0, 4, 1).turn(0, 0, 0), 6);
        Due.is("never to 9", seen(TURN, 9, 0).turn(0, 0, 0), 0);
        Due.is("all", seen(TURN).turn(0, 0, 0), 45);
        Due.is("put in there", seen(TURN, 0, 1).turn(0, 0, 1), 45);
        Due.is("put in elsewhere", seen(TURN, 0, 1).turn(0, 0, 0), 0);
    }

    // Promises.

    private static void fits() {
        Sentences.promise(52, "SEEN (V): pairs that fit a SLOT's row: how many.");
        QuotedRiver x = seen(RING, 5, 1);
        Due.row(x, 3, 1, 60, 2);
        Due.is("SLOT 0", x.fits(0), 6);
        Due.is("SLOT 3", x.fits(3), 61);
        Due.is("ten REACHES and 60 numbers", ten(30).fits(0), 11);
        Due.is("asked again", x.fits(0), 6);
        Due.is("asked again", x.sources(3), 7);
        Due.is("asked again", x.source(0), 1);
        Due.is("asked again", x.doubts(0), 3);
        Due.row(x, 3, 1, 0, 1);
        Due.is("of these alone", x.sources(3), 2);
        Due.is("of these alone", x.source(3), 100);
        Due.is("of these alone", x.doubts(3), 1);
        // Acts as now.
        QuotedRiver turn = seen(TURN, 60, 0);
        Due.is("by the JOIN", turn.fits(0), 3 - 1);
        Due.is("close", turn.close(0, 1), 0);
        Due.is("without", turn.fits(0), 61);
    }

    /** Nine flow into 9 at STEP 0 alone, 9 keeps all; seen there at 1, 2, ..: put in at 0 anywhere, or in 9 at 1. */
    private static QuotedRiver ten(int pairs) {
        QuotedRiver x = Due.told(Samples.EMPTY + Samples.reach(9, 1, 1).repeat(9) + Samples.reach(9, 1, 20)
                + Samples.rain(1, 0));
        Due.is("row", x.row(0, 0, 2 * pairs), 0);
        for (int i = 0; i < pairs; i++) {
            Due.is("STEP", x.write(0, 2 * i, i + 1), 0);
            Due.is("REACH", x.write(0, 2 * i + 1, 9), 0);
        }
        return x;
    }

    private static void fitsRefused() {
        Sentences.promise(52, "-2: there is no such SLOT, no RIVERS, a number is none such (asked last), not two each;");
        QuotedRiver x = Due.told(RING + Samples.join(0, 0, 1, 0));
        for (int slot : new int[] {-1, 4, Integer.MAX_VALUE, Integer.MIN_VALUE}) {
            refused(x, slot, -2);
        }
        long[][] rows = {{61, 0}, {-1, 0}, {5, 3}, {5, -1}, {5, 1, 61, 1}, {5, 1, 6, 3}, {5, 1, -1, 1}, {5, 1, 6, -1},
            {5}, {5, 1, 6}, {127, 0}, {-128, 0}, {5, 127}};
        for (long[] row : rows) {
            QuotedRiver y = seen(RING + Samples.join(0, 0, 1, 0), row);
            refused(y, 0, -2);
        }
        // A number of eight bytes is none such by its highest bits, too.
        Due.row(x, 1, 3, 4294967296L + 5, 1);
        refused(x, 1, -2);
        Due.row(x, 1, 3, 5, 4294967296L + 1);
        refused(x, 1, -2);
        Due.row(x, 1, 3, 5, 1);
        Due.is("as it should be", x.fits(1), 1);
        QuotedRiver none = new QuotedRiver();
        Due.row(none, 0, 0, 5, 1);
        refused(none, 0, -2);
        // What a REACH is that is no more: none such.
        Due.is("rivers", Due.tell(none, RING), 4);
        Due.is("fits", none.fits(0), 6);
        Due.is("rivers", Due.tell(none, Samples.HIGH + Samples.reach(0)), 2);
        refused(none, 0, -2);
        // The last STEP and the last REACH are such, and so they are in the last pair.
        Due.is("60 and 2", seen(RING, 60, 2).fits(0), 61);
        Due.is("60 and 2, last", seen(RING, 59, 1, 60, 2).fits(0), 60);
    }

    private static void refused(QuotedRiver x, int slot, int due) {
        Due.is("fits " + slot, x.fits(slot), due);
        Due.is("sources " + slot, x.sources(slot), due);
        Due.is("source " + slot, x.source(slot), due);
        Due.is("ask " + slot, x.ask(slot), due);
        Due.is("doubts " + slot, x.doubts(slot), due);
        Due.is("turn " + slot, x.turn(slot, 0, 0), due);
        Due.is("turned " + slot, x.turned(slot, 0, 0), due);
    }

    private static void nothing() {
        Sentences.promise(52, "-6: it has nothing.");
        QuotedRiver x = Due.told(RING + Samples.join(0, 0, 1, 0));
        for (int slot = 0; slot < 4; slot++) {
            refused(x, slot, -6);
        }
        // A row of no numbers is a row.
        Due.is("row", x.row(2, 0, 0), 0);
        Due.is("fits", x.fits(2), 183);
        refused(x, 1, -6);
    }

    private static void sources() {
        Sentences.promise(53, "REACHES of these, as bits.");
        Due.is("one", seen(RING, 0, 1).sources(0), 2);
        Due.is("two", seen(RING, 1, 1).sources(0), 3);
        Due.is("three", seen(RING, 2, 1).sources(0), 7);
        Due.is("none", seen(RING, 2, 1, 2, 2).sources(0), 0);
        Due.is("all ten", ten(0).sources(0), 1023);
        Sentences.promise(53, "-2, -6 likewise.");
        Due.is("-2", seen(RING, 61, 0).sources(0), -2);
        Due.is("-2", Due.told(RING).sources(4), -2);
        Due.is("-2", new QuotedRiver().sources(0), -2);
        Due.is("-6", Due.told(RING).sources(0), -6);
    }

    private static void source() {
        Sentences.promise(54, "The first such pair: 100 times the REACH and the STEP.");
        // In 1 at 5: 0 at 1 and 4, 1 at 2 and 5, 2 at 0 and 3: by the REACH first, by the STEP then.
        Due.is("of six", seen(RING, 5, 1).source(0), 1);
        Due.is("0 at 0", seen(RING, 3, 0).source(0), 0);
        Due.is("2 alone", seen(RING, 0, 2).source(0), 200);
        // 0 to the sea: it is there at 60 only if put in then.
        Due.is("0 at 60", seen(Samples.HIGH + Samples.reach(SEA), 60, 0).source(0), 60);
        Due.is("9 at 60", seen(Samples.HIGH + Samples.reach(SEA).repeat(10), 60, 9).source(0), 960);
        Sentences.promise(54, "NONE: none;");
        Due.is("none", seen(RING, 2, 1, 2, 2).source(0), -1);
        Due.is("no REACHES", seen(Samples.HIGH).source(0), -1);
        Sentences.promise(54, "-2, -6 likewise.");
        Due.is("-2", seen(RING, 61, 0).source(0), -2);
        Due.is("-2", Due.told(RING).source(-1), -2);
        Due.is("-2", new QuotedRiver().source(0), -2);
        Due.is("-6", Due.told(RING).source(0), -6);
    }

    private static void ask() {
        Sentences.promise(55, "The STEP (0 .. 60) of which to know where it was (in a REACH, the sea, not put in yet) "
                + "leaves fewest of these at worst, if fewer than now, the first of several.");
        // Put in at 0 .. 5 they are all in one REACH from then on: at 2 three are, and three are not put in yet.
        Due.is("half and half", seen(RING, 5, 1).ask(0), 2);
        // Put in at 0 .. 6: 3 and 4 at 2, 4 and 3 at 3: the first.
        Due.is("the first", seen(RING, 6, 1).ask(0), 2);
        Due.is("0", seen(RING, 1, 1).ask(0), 0);
        // The sea is an answer of its own: at 30 of 60 it has 30, 1 is in 0, 30 are not put in yet.
        Due.is("30", seen(Samples.HIGH + Samples.reach(SEA)).ask(0), 30);
        // Ten that keep all: at 55 fifty are not put in yet, 56 in each; at 54 it is sixty and 55, at 56 forty and 57.
        Due.is("55", seen(EdgesOfSlots.TEN).ask(0), 55);
        // Nine that come to the tenth at 1: at 54 sixty are not put in yet, 64 in the tenth; at 53 seventy, at 55 65.
        Due.is("54", ten(0).ask(0), 54);
        // In 0 at 4, put in at 0 .. 4: at 1 and 2 three are on one side, at 59 three are in 0 still; at 60 two are in 0,
        // two in 1, one is in the sea.
        Due.is("60", seen(LAST_TELLS, 4, 0).ask(0), 60);
        // 0 put in at 0, 1 and 2 at 1, 3 at 2: at 0 three are not put in yet, at 1 each is elsewhere.
        Due.is("in 0, 1 and 2", seen(FOUR_WAYS, 2, 3).ask(0), 1);
    }

    private static void askNone() {
        Sentences.promise(55, "NONE: none;");
        Due.is("one pair", seen(RING, 0, 1).ask(0), -1);
        Due.is("no pair", seen(RING, 0, 1, 0, 2).ask(0), -1);
        Sentences.promise(55, "-2, -6 likewise.");
        Due.is("-2", seen(RING, 61, 0).ask(0), -2);
        Due.is("-2", Due.told(RING).ask(4), -2);
        Due.is("-2", new QuotedRiver().ask(0), -2);
        Due.is("-6", Due.told(RING).ask(0), -6);
    }

    private static void doubts() {
        Sentences.promise(56, "How many it leaves at worst (as now without).");
        Due.is("3 of 6", seen(RING, 5, 1).doubts(0), 3);
        Due.is("4 of 7", seen(RING, 6, 1).doubts(0), 4);
        Due.is("1 of 2", seen(RING, 1, 1).doubts(0), 1);
        Due.is("30 of 61", seen(Samples.HIGH + Samples.reach(SEA)).doubts(0), 30);
        Due.is("as now: 1", seen(RING, 0, 1).doubts(0), 1);
        Due.is("as now: none", seen(RING, 0, 1, 0, 2).doubts(0), 0);
        Due.is("56 of 610", seen(EdgesOfSlots.TEN).doubts(0), 56);
        Due.is("64 of 610", ten(0).doubts(0), 64);
        Due.is("2 of 5", seen(LAST_TELLS, 4, 0).doubts(0), 2);
        Due.is("1 of 4", seen(FOUR_WAYS, 2, 3).doubts(0), 1);
        Sentences.promise(56, "-2, -6 likewise.");
        Due.is("-2", seen(RING, 61, 0).doubts(0), -2);
        Due.is("-2", Due.told(RING).doubts(4), -2);
        Due.is("-2", new QuotedRiver().doubts(0), -2);
        Due.is("-6", Due.told(RING).doubts(0), -6);
    }

    private static void turn() {
        Sentences.promise(57, "TURN (VI) of a JOIN, a STICK put in a REACH: pairs that fit: how many.");
        QuotedRiver x = seen(TURN, 1, 1);
        Due.is("of 0", x.turn(0, 0, 0), 9);
        Due.is("of 1", x.turn(0, 0, 1), 45);
        Due.is("as told it stays", x.join(0, 2), 5);
        Due.is("as told it stays", x.join(0, 3), 3);
        Due.is("as told it goes", x.where(0, 0, 1), 0);
        // The last of five, behind four that never go by it.
        QuotedRiver five = seen(Samples.HIGH + Samples.reach(0) + Samples.reach(1) + Samples.join(1, 1, 1, 0).repeat(4)
                + Samples.join(0, 1, 9, 8), 1, 1);
        Due.is("the last", five.turn(0, 4, 0), 9);
        Due.is("another", five.turn(0, 0, 0), 0);
        Sentences.promise(57, "-2 (no such JOIN, REACH, too), -6 as fits().");
        for (int none : new int[] {-1, 1, 5, Integer.MAX_VALUE, Integer.MIN_VALUE}) {
            Due.is("JOIN " + none, x.turn(0, none, 0), -2);
            Due.is("turned JOIN " + none, x.turned(0, none, 0), -2);
        }
        for (int none : new int[] {-1, 2, 10, Integer.MAX_VALUE, Integer.MIN_VALUE}) {
            Due.is("REACH " + none, x.turn(0, 0, none), -2);
            Due.is("turned REACH " + none, x.turned(0, 0, none), -2);
            Due.is("SLOT " + none, x.turn(none == 2 ? 4 : none, 0, 0), -2);
        }
        Due.is("a number", seen(TURN, 1, 2).turn(0, 0, 0), -2);
        Due.is("not two each", seen(TURN, 1).turn(0, 0, 0), -2);
        Due.is("no RIVERS", new QuotedRiver().turn(0, 0, 0), -2);
        Due.is("nothing", x.turn(1, 0, 0), -6);
        Due.is("nothing, no JOIN", x.turn(1, 1, 0), -2);
        Due.is("nothing, no REACH", x.turn(1, 0, 2), -2);
    }

    private static void turned() {
        Sentences.promise(58, "The first such: 10 times each, and at.");
        Due.is("1 at 0", seen(TURN, 1, 1).turned(0, 0, 0), 10);
        Due.is("2 at 1", seen(TURN, 1, 0).turned(0, 0, 0), 21);
        // The first time at 3: 4 at 3; the first time at 8: 9 at 8.
        Due.is("4 at 3", seen(TURN, 3, 0, 4, 1).turned(0, 0, 0), 43);
        Due.is("9 at 8", seen(TURN, 8, 0, 9, 1).turned(0, 0, 0), 98);
        // It LEAVES at 2: 1 at 0, 2 at 0, 3 at 2 and so on; of 2 at 0 and 1 at 0 that of the lesser each.
        Due.is("by each first", seen(Samples.HIGH + Samples.reach(SEA, 3, 0) + Samples.reach(1)
                + Samples.join(0, 1, 9, 8), 3, 1).turned(0, 0, 0), 10);
        Sentences.promise(58, "NONE: none;");
        QuotedRiver none = seen(TURN, 9, 0);
        Due.row(none, 1, 0, 1, 1);
        Due.is("one, and then", none.turned(1, 0, 0), 10);
        Due.is("none", none.turned(0, 0, 0), -1);
        Due.is("none", seen(TURN, 0, 1).turned(0, 0, 0), -1);
        Sentences.promise(58, "-2, -6 likewise.");
        QuotedRiver x = seen(TURN, 1, 1);
        Due.is("JOIN", x.turned(0, 1, 0), -2);
        Due.is("REACH", x.turned(0, 0, 2), -2);
        Due.is("SLOT", x.turned(4, 0, 0), -2);
        Due.is("a number", seen(TURN, 61, 0).turned(0, 0, 0), -2);
        Due.is("no RIVERS", new QuotedRiver().turned(0, 0, 0), -2);
        Due.is("nothing", x.turned(1, 0, 0), -6);
    }
}
