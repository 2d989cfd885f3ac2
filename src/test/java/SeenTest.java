/** Promises 52 to 58: where a STICK was put in, by where it was seen, and by which turn a JOIN goes. */
public final class SeenTest {
    public static void main(String[] args) {
        pairs();
        ask();
        withActs();
        widths();
        turn();
        refused();
        refusedTurn();
        Due.end();
    }

    private static void pairs() {
        QuotedRiver x = Due.told(Samples.FOUR);
        // 0 put in at 0, 1 at 1, 2 at 2.
        Due.row(x, 0, 0, 2, 2);
        found(x, 0, 3, 7, 0);
        // At STEP 1 in 0: 0 put in at 0 and at 1, 1 at 0.
        Due.row(x, 1, 1, 1, 0);
        found(x, 1, 3, 3, 0);
        // Both: 0 put in at 0 alone; told in any order.
        Due.row(x, 2, 2, 1, 0, 2, 2);
        found(x, 2, 1, 1, 0);
        Due.row(x, 2, 2, 2, 2, 1, 0);
        found(x, 2, 1, 1, 0);
        Due.row(x, 2, 3, 2, 2, 2, 2);
        found(x, 2, 3, 7, 0);
        // At STEP 3 in 1: 0 put in at 1, 1 at 0 and at 3.
        Due.row(x, 0, 0, 3, 1);
        found(x, 0, 3, 3, 1);
        // At STEP 2 in 1: 1 put in at 2 alone.
        Due.row(x, 0, 0, 2, 1);
        found(x, 0, 1, 2, 102);
        // In two at once: none.
        Due.row(x, 0, 0, 2, 1, 2, 2);
        found(x, 0, 0, 0, -1);
        // It goes round in 3 for good: 0 .. 60.
        Due.row(x, 0, 0, 60, 3);
        found(x, 0, 61, 8, 300);
        Due.row(x, 0, 0, 0, 3);
        found(x, 0, 1, 8, 300);
        // Nothing was seen: all pairs.
        Due.row(x, 3, 0);
        found(x, 3, 244, 15, 0);
        QuotedRiver none = Due.told("rivers level 5 odds 2 swell 3;");
        Due.row(none, 3, 0);
        found(none, 3, 0, 0, -1);
        Due.is("ask", none.ask(3), -1);
        Due.is("doubts", none.doubts(3), 0);
    }

    private static void found(QuotedRiver x, int slot, int pairs, int reaches, int first) {
        Due.is("fits", x.fits(slot), pairs);
        Due.is("sources", x.sources(slot), reaches);
        Due.is("source", x.source(slot), first);
    }

    private static void ask() {
        QuotedRiver x = Due.told(Samples.FOUR);
        // 0 0 2 and - 1 2 and - - 2: at STEP 0 two are not put in yet, at 1 all are told apart.
        Due.row(x, 0, 0, 2, 2);
        asked(x, 0, 1, 1);
        // One alone, or none: nothing to ask.
        Due.row(x, 0, 0, 2, 1);
        asked(x, 0, -1, 1);
        Due.row(x, 0, 0, 2, 1, 2, 2);
        asked(x, 0, -1, 0);
        // 61 of 3, put in at 0 .. 60: at 29 there are 30 put in and 31 not yet, at 30 31 and 30.
        Due.row(x, 0, 0, 60, 3);
        asked(x, 0, 29, 31);
        // All of them; the sea is one of the answers: at 30 it has 30, and 30 are not put in yet.
        QuotedRiver y = Due.told("rivers level 60 odds 0 swell 1;reach to sea takes 1 low 0;");
        Due.row(y, 0, 0);
        asked(y, 0, 30, 30);
        // Not to be told apart: two sets of one REACH at STEP 0.
        QuotedRiver z = Due.told("rivers level 60 odds 0 swell 1;reach to 1 takes 1 low 0;reach to 1 takes 1 low 0;");
        Due.row(z, 0, 0, 0, 1);
        asked(z, 0, -1, 1);
        // 0 put in at 0, 1 at 0 or 1: first at 0.
        Due.row(z, 0, 0, 1, 1);
        asked(z, 0, 0, 1);
    }

    private static void asked(QuotedRiver x, int slot, int step, int left) {
        Due.is("ask", x.ask(slot), step);
        Due.is("doubts", x.doubts(slot), left);
    }

    private static void withActs() {
        QuotedRiver x = Due.told(Samples.FOUR);
        Due.row(x, 0, 0, 2, 2);
        Due.is("close", x.close(0, 1), 0);
        found(x, 0, 2, 6, 101);
        Due.is("undo", x.undo(), 0);
        found(x, 0, 3, 7, 0);
        // 0 put in at 2, 5 and 6, 1 at 4 and 7, 2 at 8 are in 2 at 8 and stay there; 2 at 9, too.
        Due.row(x, 1, 0, 8, 2);
        found(x, 1, 6, 7, 2);
        Due.row(x, 2, 0, 9, 2);
        found(x, 2, 7, 7, 2);
        // With LEVEL 4 at STEP 8 they are there no more at 9.
        Due.is("pours", x.pours(8, 1), 4);
        found(x, 1, 6, 7, 2);
        found(x, 2, 1, 4, 209);
        Due.is("anew", x.anew(), 1);
        found(x, 2, 7, 7, 2);
    }

    private static void widths() {
        QuotedRiver x = Due.told(Samples.FOUR);
        // What is cut is told: 258 of one byte is 2, 65,538 of two is 2, 4,294,967,298 of four is 2.
        Due.row(x, 0, 0, 258, -254);
        Due.row(x, 1, 1, 65538, -65534);
        Due.row(x, 2, 2, 4294967298L, -4294967294L);
        Due.row(x, 3, 3, 2, 2);
        for (int slot = 0; slot < 4; slot++) {
            Due.is("fits " + slot, x.fits(slot), 3);
        }
        Due.row(x, 0, 1, 258, 2);
        Due.row(x, 1, 2, 65538, 2);
        Due.row(x, 2, 3, 4294967298L, 2);
        Due.row(x, 3, 3, 2, 4294967298L);
        for (int slot = 0; slot < 4; slot++) {
            Due.is("fits " + slot, x.fits(slot), -2);
        }
    }

    private static void turn() {
        QuotedRiver x = Due.told(Samples.FOUR);
        // 0 is left at STEP 1: at 1 of each 2 .. 9, and each 1 at 0.
        Due.row(x, 0, 0, 2, 2);
        turned(x, 0, 0, 0, 9, 10);
        Due.row(x, 0, 0, 2, 1);
        turned(x, 0, 0, 0, 36, 20);
        Due.row(x, 0, 0, 2, 3);
        turned(x, 0, 0, 0, 0, -1);
        Due.row(x, 0, 0);
        turned(x, 0, 0, 0, 45, 10);
        // Put into 1 at 0 it goes to 0 at 0 of each: at 0.
        Due.row(x, 0, 0, 1, 0);
        turned(x, 0, 1, 1, 9, 10);
        Due.row(x, 0, 0, 1, 2);
        turned(x, 0, 1, 1, 36, 21);
        // Seen twice: in 0 at 1 and in 2 at 3 (JOIN 0 at STEP 2): at 2 of each 3 .. 9, 0 of 2 and of 1.
        Due.row(x, 0, 0, 1, 0, 3, 2);
        turned(x, 0, 0, 1, 9, 10);
        Due.row(x, 0, 0, 0, 1, 3, 1);
        turned(x, 0, 0, 1, 36, 21);
        // As it is told it stays.
        Due.is("each", x.join(0, 2), 3);
        Due.is("at", x.join(0, 3), 1);
        Due.is("where", x.where(0, 0, 2), 2);
        // A JOIN that is shut goes by no turn.
        Due.is("close", x.close(0, 1), 0);
        Due.row(x, 0, 0, 2, 2);
        turned(x, 0, 0, 0, 0, -1);
        Due.row(x, 0, 0, 2, 1);
        turned(x, 0, 0, 0, 45, 10);
        // Where the JOIN is not on its way every turn fits.
        Due.row(x, 0, 0, 60, 3);
        turned(x, 0, 1, 3, 45, 10);
    }

    private static void turned(QuotedRiver x, int slot, int join, int reach, int pairs, int first) {
        Due.is("turn", x.turn(slot, join, reach), pairs);
        Due.is("turned", x.turned(slot, join, reach), first);
    }

    private static void refused() {
        QuotedRiver x = Due.told(Samples.FOUR);
        for (int slot : new int[] {-1, 4, Integer.MAX_VALUE, Integer.MIN_VALUE}) {
            refused(x, slot, -2);
        }
        refused(x, 0, -6);
        long[][] wrong = {{2}, {2, 2, 2}, {61, 2}, {-1, 2}, {2, 4}, {2, -1}, {2, 2, 2, 4}, {2, 2, 61, 0}, {2, 10},
            {-128, 2}, {127, 2}, {2, 2, 2, 2, 9, 9}};
        for (long[] row : wrong) {
            Due.row(x, 1, 0, row);
            refused(x, 1, -2);
        }
        Due.row(x, 1, 3, Long.MAX_VALUE, 0);
        refused(x, 1, -2);
        Due.row(x, 1, 3, 0, Long.MIN_VALUE);
        refused(x, 1, -2);
        Due.row(x, 1, 0, 60, 0);
        Due.is("fits", x.fits(1) > 0 ? 1 : 0, 1);
        // Without RIVERS there is none such, though the SLOT has nothing.
        QuotedRiver none = new QuotedRiver();
        refused(none, 0, -2);
        Due.row(none, 0, 0, 0, 0);
        refused(none, 0, -2);
        Due.is("rivers", Due.tell(none, Samples.FOUR), 9);
        Due.is("fits", none.fits(0), 1);
        Due.is("rivers", none.rivers(), 0);
        refused(none, 0, -2);
        Due.is("SLOTS", none.count(9), 1);
    }

    private static void refused(QuotedRiver x, int slot, int due) {
        Due.is("fits " + slot, x.fits(slot), due);
        Due.is("sources " + slot, x.sources(slot), due);
        Due.is("source " + slot, x.source(slot), due);
        Due.is("ask " + slot, x.ask(slot), due);
        Due.is("doubts " + slot, x.doubts(slot), due);
        Due.is("turn " + slot, x.turn(slot, 0, 0), due);
        Due.is("turned " + slot, x.turned(slot, 0, 0), due);
    }

    private static void refusedTurn() {
        QuotedRiver x = Due.told(Samples.FOUR);
        int[][] none = {{0, 2, 0}, {0, -1, 0}, {0, 0, 4}, {0, 0, -1}, {0, Integer.MAX_VALUE, 0}, {4, 0, 0},
            {1, Integer.MIN_VALUE, 0}, {1, 0, Integer.MAX_VALUE}};
        Due.row(x, 0, 0, 2, 2);
        for (int[] row : none) {
            Due.is("turn", x.turn(row[0], row[1], row[2]), -2);
            Due.is("turned", x.turned(row[0], row[1], row[2]), -2);
        }
        Due.is("turn", x.turn(1, 0, 0), -6);
        Due.is("turned", x.turned(1, 0, 0), -6);
    }
}
