/** Promises 75 to 77: rows of numbers in SLOTS, read by what pairs fit them. */
final class EdgesOfSlots {
    private static final int[] NO_SLOTS = {-1, 4, Integer.MAX_VALUE, Integer.MIN_VALUE};

    /** Each of ten keeps all: a row (0, r) is fitted by r put in at 0 alone. */
    static final String TEN = tenThatKeep();

    private EdgesOfSlots() {
    }

    static void run() {
        row();
        rowRefused();
        rowBelow();
        write();
        writeRefused();
        paste();
        pasteToItself();
        pasteRefused();
        pasteBeyond();
    }

    private static String tenThatKeep() {
        StringBuilder text = new StringBuilder(Samples.HIGH);
        for (int reach = 0; reach < 10; reach++) {
            text.append(Samples.reach(reach));
        }
        return text.toString();
    }

    /** What the one pair (0, REACH) of a row tells, read by a row of its own in SLOT 3. */
    private static void tells(QuotedRiver x, int slot, int width, int... due) {
        for (int i = 0; i < due.length; i++) {
            Due.is("row of the reader", x.row(3, width, 2), 0);
            Due.is("paste", x.paste(slot, i, 3, 1, 1), 0);
            Due.is("number " + i + " of SLOT " + slot, x.source(3), 100 * due[i]);
        }
        Due.is("no more", x.write(slot, due.length, 0), -7);
    }

    private static void row() {
        Sentences.promise(75, "A SLOT (0 .. 3) has a row of n numbers of a WIDTH, all 0 (in place of another one): 0.");
        QuotedRiver x = Due.told(TEN);
        for (int slot = 0; slot < 3; slot++) {
            Due.is("row " + slot, x.row(slot, slot + 1, 3), 0);
            tells(x, slot, slot + 1, 0, 0, 0);
        }
        Due.is("row 3", x.row(3, 3, 0), 0);
        Due.row(x, 1, 0, 7, 8, 9);
        tells(x, 1, 0, 7, 8, 9);
        Due.is("in place of it", x.row(1, 0, 4), 0);
        tells(x, 1, 0, 0, 0, 0, 0);
        Due.row(x, 1, 0, 7, 8, 9);
        Due.is("of another WIDTH, shorter", x.row(1, 3, 1), 0);
        tells(x, 1, 3, 0);
        Due.is("of none", x.row(1, 0, 0), 0);
        Due.is("no number", x.write(1, 0, 0), -7);
        Due.is("a row of none", x.fits(1), 610);
        Due.is("of 60", x.row(1, 0, 60), 0);
        Due.is("the last", x.write(1, 59, 1), 0);
        Due.is("one more", x.write(1, 60, 1), -7);
        Due.is("others stay", x.write(0, 2, 1), 0);
    }

    private static void rowRefused() {
        Sentences.promise(75, "-2: there is no such SLOT or WIDTH (0 .. 3), or n is above 60;");
        QuotedRiver x = Due.told(TEN);
        Due.row(x, 0, 0, 7, 8);
        for (int none : NO_SLOTS) {
            Due.is("SLOT " + none, x.row(none, 0, 1), -2);
            Due.is("WIDTH " + none, x.row(0, none, 1), -2);
            Due.is("SLOT " + none + ", n below 0", x.row(none, 0, -1), -2);
            Due.is("WIDTH " + none + ", n below 0", x.row(0, none, -1), -2);
        }
        Due.is("61", x.row(0, 0, 61), -2);
        Due.is("most", x.row(0, 0, Integer.MAX_VALUE), -2);
        Due.is("SLOTS", x.count(9), 1);
        tells(x, 0, 0, 7, 8);
    }

    private static void rowBelow() {
        Sentences.promise(75, "-3, and the SLOT stays: n is below 0.");
        QuotedRiver x = Due.told(TEN);
        Due.is("-1", x.row(0, 0, -1), -3);
        Due.is("least", x.row(3, 3, Integer.MIN_VALUE), -3);
        Due.is("it has nothing yet", x.fits(0), -6);
        Due.is("SLOTS", x.count(9), 0);
        Due.row(x, 0, 0, 7, 8);
        Due.is("-1", x.row(0, 1, -1), -3);
        tells(x, 0, 0, 7, 8);
    }

    private static void write() {
        Sentences.promise(76, "Number i of the SLOT's row is v, cut to its WIDTH: 0.");
        QuotedRiver x = Due.told(TEN);
        for (int width = 0; width < 4; width++) {
            Due.is("row", x.row(0, width, 3), 0);
            Due.is("write 0", x.write(0, 0, 4), 0);
            Due.is("write 2", x.write(0, 2, 6), 0);
            tells(x, 0, width, 4, 0, 6);
            Due.is("write again", x.write(0, 0, 9), 0);
            tells(x, 0, width, 9, 0, 6);
        }
        // What is above its bits is cut away, of numbers below 0, too: 3 more than 2 to the power of 8, 16, 32.
        for (int width = 0; width < 3; width++) {
            long beyond = 1L << (8 << width);
            Due.row(x, 0, width, beyond + 3, 3 - beyond, 3 - 7 * beyond, Long.MIN_VALUE + 3);
            tells(x, 0, width, 3, 3, 3, 3);
        }
        // With one bit less it is another number, and none such.
        for (int width = 0; width < 4; width++) {
            Due.row(x, 0, width, 0, (1L << (8 << width) - 1) + 3);
            Due.is("not cut", x.fits(0), -2);
            Due.row(x, 0, width, 0, -1);
            Due.is("not cut", x.fits(0), -2);
        }
        Due.row(x, 0, 3, 0, 4294967296L + 3);
        Due.is("of eight bytes", x.fits(0), -2);
        Due.row(x, 0, 3, 0, 3);
        Due.is("of eight bytes", x.source(0), 300);
    }

    private static void writeRefused() {
        Sentences.promise(76, "-2: there is no such SLOT;");
        QuotedRiver x = Due.told(TEN);
        for (int slot : NO_SLOTS) {
            Due.is("SLOT " + slot, x.write(slot, 0, 1), -2);
            Due.is("SLOT " + slot + ", no such number", x.write(slot, -1, 1), -2);
        }
        Sentences.promise(76, "-6: it has nothing;");
        for (int slot = 0; slot < 4; slot++) {
            Due.is("nothing in " + slot, x.write(slot, 0, 1), -6);
            Due.is("no such number of nothing", x.write(slot, -1, 1), -6);
        }
        Sentences.promise(76, "-7: there is no such number.");
        Due.row(x, 0, 0, 7, 8);
        for (int i : new int[] {-1, 2, 59, 60, Integer.MAX_VALUE, Integer.MIN_VALUE}) {
            Due.is("number " + i, x.write(0, i, 1), -7);
        }
        tells(x, 0, 0, 7, 8);
        Due.is("row of none", x.row(1, 0, 0), 0);
        Due.is("number 0 of none", x.write(1, 0, 1), -7);
    }

    private static void paste() {
        Sentences.promise(77, "So many numbers of a SLOT's row, from one on, are put to another one's (or its own), from "
                + "one on, as they were: 0.");
        QuotedRiver x = Due.told(TEN);
        for (int width = 0; width < 4; width++) {
            Due.row(x, 0, width, 1, 2, 3, 4, 5);
            Due.row(x, 1, width, 6, 7, 8, 9);
            Due.is("paste", x.paste(0, 2, 1, 1, 2), 0);
            tells(x, 1, width, 6, 3, 4, 9);
            tells(x, 0, width, 1, 2, 3, 4, 5);
            Due.is("the last to the last", x.paste(0, 4, 1, 3, 1), 0);
            Due.is("the first to the first", x.paste(0, 0, 1, 0, 1), 0);
            tells(x, 1, width, 1, 3, 4, 5);
            Due.is("none", x.paste(0, 0, 1, 0, 0), 0);
            tells(x, 1, width, 1, 3, 4, 5);
            Due.is("all", x.paste(1, 0, 0, 1, 4), 0);
            tells(x, 0, width, 1, 1, 3, 4, 5);
        }
        Due.is("row of 60", x.row(0, 0, 60), 0);
        Due.is("row of 60", x.row(1, 0, 60), 0);
        Due.is("write", x.write(0, 59, 5), 0);
        Due.is("all 60", x.paste(0, 0, 1, 0, 60), 0);
        Due.is("the last", x.paste(1, 59, 1, 1, 1), 0);
        Due.is("row", x.row(2, 0, 2), 0);
        Due.is("the last", x.paste(1, 0, 2, 0, 2), 0);
        Due.is("as it was", x.source(2), 500);
    }

    private static void pasteToItself() {
        Sentences.promise(77, "as they were: 0.");
        QuotedRiver x = Due.told(TEN);
        Due.row(x, 0, 0, 1, 2, 3, 4, 5);
        Due.is("up by one over itself", x.paste(0, 0, 0, 1, 4), 0);
        tells(x, 0, 0, 1, 1, 2, 3, 4);
        Due.row(x, 0, 0, 1, 2, 3, 4, 5);
        Due.is("down by one over itself", x.paste(0, 1, 0, 0, 4), 0);
        tells(x, 0, 0, 2, 3, 4, 5, 5);
        Due.row(x, 0, 0, 1, 2, 3, 4, 5);
        Due.is("up by two over itself", x.paste(0, 0, 0, 2, 3), 0);
        tells(x, 0, 0, 1, 2, 1, 2, 3);
        Due.row(x, 0, 0, 1, 2, 3, 4, 5);
        Due.is("down by two over itself", x.paste(0, 2, 0, 0, 3), 0);
        tells(x, 0, 0, 3, 4, 5, 4, 5);
        Due.is("to where it is", x.paste(0, 0, 0, 0, 5), 0);
        tells(x, 0, 0, 3, 4, 5, 4, 5);
    }

    private static void pasteRefused() {
        Sentences.promise(77, "-2: there is no such SLOT;");
        QuotedRiver x = Due.told(TEN);
        Due.row(x, 0, 0, 7, 8);
        for (int none : NO_SLOTS) {
            Due.is("from " + none, x.paste(none, 0, 0, 0, 1), -2);
            Due.is("to " + none, x.paste(0, 0, none, 0, 1), -2);
            Due.is("from nothing to " + none, x.paste(1, 0, none, 0, 1), -2);
            Due.is("from " + none + " to nothing", x.paste(none, -1, 1, -1, -1), -2);
        }
        Sentences.promise(77, "-6: one has nothing;");
        Due.is("from nothing", x.paste(1, 0, 0, 0, 1), -6);
        Due.is("to nothing", x.paste(0, 0, 1, 0, 1), -6);
        Due.is("nothing to nothing", x.paste(1, 0, 2, 0, 0), -6);
        Due.is("nothing to itself", x.paste(1, 0, 1, 0, 0), -6);
        Due.is("beyond, from nothing", x.paste(1, -1, 0, 9, -1), -6);
        Due.is("it has nothing still", x.fits(1), -6);
        Sentences.promise(77, "-8: they are not of one WIDTH;");
        for (int width = 1; width < 4; width++) {
            Due.row(x, 1, width, 5, 6);
            Due.is("WIDTH " + width, x.paste(0, 0, 1, 0, 1), -8);
            Due.is("WIDTH " + width, x.paste(1, 0, 0, 0, 1), -8);
            Due.is("of none", x.paste(0, 0, 1, 0, 0), -8);
            Due.is("beyond", x.paste(0, -1, 1, 9, -1), -8);
            tells(x, 1, width, 5, 6);
        }
        tells(x, 0, 0, 7, 8);
    }

    private static void pasteBeyond() {
        Sentences.promise(77, "-7, and nothing happens: some are beyond their rows (also where n is 0: a place above how "
                + "many it has), or a place or n is below 0.");
        QuotedRiver x = Due.told(TEN);
        Due.row(x, 0, 0, 1, 2, 3, 4);
        Due.row(x, 1, 0, 7, 8, 9);
        int most = Integer.MAX_VALUE;
        int least = Integer.MIN_VALUE;
        // From, to, how many: beyond the one, beyond the other, a place above, a place or n below.
        int[][] beyond = {{2, 0, 3}, {4, 0, 1}, {0, 0, 4}, {0, 1, 3}, {0, 3, 1}, {5, 0, 0}, {0, 4, 0}, {-1, 0, 1},
            {-1, 0, 0}, {0, -1, 1}, {0, -1, 0}, {0, 0, -1}, {-1, -1, 2}, {1, 1, -1}, {most, 0, 0}, {0, most, 0},
            {0, 0, most}, {1, 1, most}, {most, most, 2}, {most, most, most}, {least, 0, 0}, {0, least, 0}, {0, 0, least},
            {least, least, least}, {1, 1, least}};
        for (int[] row : beyond) {
            Due.is("paste " + row[0] + " " + row[1] + " " + row[2], x.paste(0, row[0], 1, row[1], row[2]), -7);
        }
        tells(x, 1, 0, 7, 8, 9);
        tells(x, 0, 0, 1, 2, 3, 4);
        // Just as many as there are is not beyond.
        Due.is("none, at both ends", x.paste(0, 4, 1, 3, 0), 0);
        Due.is("none, within", x.paste(0, 3, 1, 2, 0), 0);
        Due.is("to the end of the one", x.paste(0, 1, 1, 0, 3), 0);
        tells(x, 1, 0, 2, 3, 4);
        Due.is("row of none", x.row(2, 0, 0), 0);
        Due.is("none to none", x.paste(2, 0, 2, 0, 0), 0);
        Due.is("none, above none", x.paste(2, 1, 2, 0, 0), -7);
        Due.is("one of none", x.paste(2, 0, 1, 0, 1), -7);
        Due.is("one to none", x.paste(1, 0, 2, 0, 1), -7);
        Due.is("in itself beyond", x.paste(0, 0, 0, 1, 4), -7);
        tells(x, 0, 0, 1, 2, 3, 4);
    }
}
