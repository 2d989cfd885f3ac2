/** Promises 75 to 77: rows of numbers in SLOTS, which the promises of what was SEEN read. */
public final class SlotsTest {
    public static void main(String[] args) {
        row();
        write();
        paste();
        pasteToItself();
        pasteRefused();
        Due.end();
    }

    private static void row() {
        QuotedRiver x = Due.told(Samples.FOUR);
        int[][] none = {{-1, 0, 0}, {4, 0, 0}, {0, -1, 0}, {0, 4, 0}, {0, 0, 61}, {Integer.MIN_VALUE, 0, 0},
            {0, Integer.MAX_VALUE, 0}, {0, 0, Integer.MAX_VALUE}, {4, 0, -1}, {0, 4, -1}};
        for (int[] row : none) {
            Due.is("row " + row[0] + " " + row[1] + " " + row[2], x.row(row[0], row[1], row[2]), -2);
        }
        Due.is("row of -1", x.row(0, 0, -1), -3);
        Due.is("row of least", x.row(0, 0, Integer.MIN_VALUE), -3);
        Due.is("SLOTS", x.count(9), 0);
        for (int slot = 0; slot < 4; slot++) {
            Due.is("row " + slot, x.row(slot, slot, 60), 0);
            Due.is("write 59", x.write(slot, 59, 1), 0);
            Due.is("write 60", x.write(slot, 60, 1), -7);
        }
        // A SLOT stays where its row is refused.
        Due.row(x, 0, 0, 2, 2);
        Due.is("row", x.row(0, 0, -1), -3);
        Due.is("row", x.row(0, 0, 61), -2);
        Due.is("row", x.row(0, 4, 1), -2);
        Due.is("fits", x.fits(0), 3);
        // In place of another one: all 0, put into 0 at 0.
        Due.is("row", x.row(0, 0, 2), 0);
        Due.is("fits", x.fits(0), 1);
        Due.is("source", x.source(0), 0);
        Due.is("row", x.row(0, 0, 0), 0);
        Due.is("fits", x.fits(0), 244);
    }

    private static void write() {
        QuotedRiver x = Due.told(Samples.FOUR);
        Due.is("write", x.write(-1, 0, 0), -2);
        Due.is("write", x.write(4, 0, 0), -2);
        Due.is("write", x.write(Integer.MAX_VALUE, 0, 0), -2);
        Due.is("write", x.write(0, 0, 0), -6);
        Due.is("write", x.write(0, -1, 0), -6);
        Due.is("row", x.row(0, 0, 2), 0);
        for (int none : new int[] {-1, 2, 60, Integer.MAX_VALUE, Integer.MIN_VALUE}) {
            Due.is("write " + none, x.write(0, none, 0), -7);
        }
        Due.is("write", x.write(0, 0, 2), 0);
        Due.is("write", x.write(0, 1, 1), 0);
        Due.is("source", x.source(0), 102);
        Due.is("row", x.row(1, 0, 0), 0);
        Due.is("write", x.write(1, 0, 0), -7);
    }

    /** The row told by the pairs that fit it: (STEP, REACH) twice, each of which only one pair fits. */
    private static void paste() {
        QuotedRiver x = Due.told(Samples.FOUR);
        Due.row(x, 0, 1, 0, 0, 0, 1, 0, 2);
        Due.row(x, 1, 1, 0, 3);
        Due.is("paste", x.paste(0, 2, 1, 0, 2), 0);
        Due.is("source", x.source(1), 100);
        Due.is("paste", x.paste(0, 5, 1, 1, 1), 0);
        Due.is("source", x.source(1), 200);
        Due.is("paste", x.paste(0, 0, 1, 0, 2), 0);
        Due.is("source", x.source(1), 0);
        Due.is("paste of none", x.paste(0, 6, 1, 2, 0), 0);
        Due.is("paste of none", x.paste(0, 0, 1, 0, 0), 0);
        Due.is("source", x.source(1), 0);
        // The one from which they are stays.
        Due.is("paste", x.paste(0, 2, 0, 0, 2), 0);
        Due.is("paste", x.paste(0, 2, 0, 4, 2), 0);
        Due.is("source", x.source(0), 100);
    }

    private static void pasteToItself() {
        QuotedRiver x = Due.told(Samples.FORK);
        // Up by two over itself: 0 0 1 3 .. becomes 0 0 0 0 1 3, where none is.
        Due.row(x, 0, 0, 0, 0, 1, 3, 9, 9);
        Due.is("paste up", x.paste(0, 0, 0, 2, 4), 0);
        Due.is("fits", x.fits(0), 0);
        // Down by one over itself: 9 0 0 1 1 2 4 becomes 0 0 1 1 2 4 4.
        Due.row(x, 1, 0, 9, 0, 0, 1, 1, 2, 4);
        Due.is("paste down", x.paste(1, 1, 1, 0, 6), 0);
        Due.is("row", x.row(2, 0, 6), 0);
        Due.is("paste", x.paste(1, 0, 2, 0, 6), 0);
        Due.is("fits", x.fits(2), 1);
        Due.is("source", x.source(2), 0);
        // Up by one: 2 1 0 3 4 .. becomes 2 2 1 0 3 4: 0 put in at 1.
        Due.row(x, 3, 0, 2, 1, 0, 3, 4, 9);
        Due.is("paste up", x.paste(3, 0, 3, 1, 5), 0);
        Due.is("fits", x.fits(3), 1);
        Due.is("source", x.source(3), 1);
    }

    private static void pasteRefused() {
        QuotedRiver x = Due.told(Samples.FOUR);
        Due.is("no SLOT", x.paste(4, 0, 0, 0, 0), -2);
        Due.is("no SLOT", x.paste(0, 0, 4, 0, 0), -2);
        Due.is("no SLOT", x.paste(-1, 0, 0, 0, 0), -2);
        Due.is("no SLOT", x.paste(0, 0, Integer.MIN_VALUE, 0, 0), -2);
        Due.is("nothing", x.paste(0, 0, 0, 0, 0), -6);
        Due.row(x, 0, 0, 0, 1, 2);
        Due.is("nothing", x.paste(0, 0, 1, 0, 0), -6);
        Due.is("nothing", x.paste(1, 0, 0, 0, 0), -6);
        Due.row(x, 1, 1, 0, 1, 2);
        Due.is("WIDTH", x.paste(0, 0, 1, 0, 0), -8);
        Due.is("WIDTH", x.paste(0, -1, 1, 99, -1), -8);
        Due.row(x, 2, 0, 0, 3);
        int most = Integer.MAX_VALUE;
        int least = Integer.MIN_VALUE;
        int[][] beyond = {{0, 0, 3}, {2, 0, 2}, {0, 1, 2}, {4, 0, 0}, {0, 3, 0}, {-1, 0, 1}, {0, -1, 1}, {0, 0, -1},
            {most, 0, 1}, {0, most, 1}, {0, 0, most}, {1, 1, most}, {most, most, most}, {least, 0, 0}, {0, least, 0},
            {0, 0, least}, {most, 0, 0}, {0, most, 0}};
        for (int[] row : beyond) {
            Due.is("paste " + row[0] + " " + row[1] + " " + row[2], x.paste(0, row[0], 2, row[1], row[2]), -7);
        }
        Due.is("source", x.source(2), 300);
        Due.is("none at the ends", x.paste(0, 3, 2, 2, 0), 0);
        Due.is("two", x.paste(0, 0, 2, 0, 2), 0);
        Due.is("source", x.source(2), 100);
    }
}
