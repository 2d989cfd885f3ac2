/** Promises 65 to 68 and 71 to 74: acts, what is taken back, what there is, and IMAGES. */
public final class ActsTest {
    public static void main(String[] args) {
        close();
        pours();
        undo();
        thirty();
        deepen();
        count();
        images();
        imageOfNone();
        lastCalls();
        Due.end();
    }

    private static void close() {
        QuotedRiver x = Due.told(Samples.FOUR);
        Due.is("sea", x.sea(0, 0), 3);
        Due.is("open", x.close(0, 0), 0);
        Due.is("close", x.close(0, 1), 0);
        // 0 0 1 0 0 1 2 sea
        Due.is("sea", x.sea(0, 0), 7);
        Due.is("close again", x.close(0, 1), 1);
        Due.is("close the other", x.close(1, 1), 0);
        Due.is("sea", x.sea(0, 0), 4);
        Due.is("open", x.close(0, 0), 1);
        Due.is("open again", x.close(0, 0), 0);
        Due.is("sea", x.sea(0, 0), 3);
        Due.is("acts", x.count(6), 6);
        int[][] none = {{2, 1}, {-1, 1}, {0, 2}, {0, -1}, {Integer.MAX_VALUE, 0}, {0, Integer.MIN_VALUE}};
        for (int[] row : none) {
            Due.is("close " + row[0] + " " + row[1], x.close(row[0], row[1]), -2);
        }
        Due.is("acts", x.count(6), 6);
        Due.is("close without", new QuotedRiver().close(0, 1), -2);
    }

    private static void pours() {
        QuotedRiver x = Due.told(Samples.FOUR);
        Due.is("pours", x.pours(2, 1), 6);
        Due.is("level 1", x.level(1), 6);
        Due.is("level 3", x.level(3), 9);
        Due.is("pours", x.pours(2, 30), 36);
        Due.is("pours", x.pours(0, 1), 8);
        Due.is("level 2", x.level(2), 37);
        Due.is("pours", x.pours(60, 2), 2);
        int[][] none = {{61, 1}, {-1, 1}, {0, 0}, {0, 31}, {0, -1}, {Integer.MAX_VALUE, 1}, {0, Integer.MAX_VALUE}};
        for (int[] row : none) {
            Due.is("pours " + row[0] + " " + row[1], x.pours(row[0], row[1]), -2);
        }
        Due.is("acts", x.count(6), 4);
        Due.is("RAINS", x.count(5), 2);
        Due.is("pours without", new QuotedRiver().pours(0, 1), -2);
        Due.is("pours without REACHES", Due.told("rivers level 5 odds 0 swell 1;").pours(0, 1), 6);
    }

    private static void undo() {
        QuotedRiver x = Due.told(Samples.FOUR);
        Due.is("undo", x.undo(), -5);
        Due.is("anew", x.anew(), 0);
        x.close(0, 1);
        x.close(0, 1);
        x.pours(2, 3);
        x.close(0, 0);
        Due.is("goes", x.goes(0, 1), 1);
        Due.is("undo", x.undo(), 3);
        Due.is("goes", x.goes(0, 1), 0);
        Due.is("level", x.level(2), 8);
        Due.is("undo", x.undo(), 2);
        Due.is("level", x.level(2), 5);
        Due.is("undo", x.undo(), 1);
        Due.is("goes", x.goes(0, 1), 0);
        Due.is("undo", x.undo(), 0);
        Due.is("goes", x.goes(0, 1), 1);
        Due.is("undo", x.undo(), -5);
        x.close(0, 1);
        x.pours(2, 3);
        Due.is("anew", x.anew(), 2);
        Due.is("goes", x.goes(0, 1), 1);
        Due.is("level", x.level(2), 5);
        Due.is("anew", x.anew(), 0);
        // What comes behind an act taken back is the latest then.
        x.pours(2, 3);
        x.undo();
        x.pours(2, 4);
        Due.is("level", x.level(2), 9);
        Due.is("undo", x.undo(), 0);
        Due.is("level", x.level(2), 5);
        QuotedRiver none = new QuotedRiver();
        Due.is("undo", none.undo(), -2);
        Due.is("anew", none.anew(), -2);
    }

    private static void thirty() {
        QuotedRiver x = Due.told(Samples.FOUR);
        for (int i = 0; i < 15; i++) {
            Due.is("close", x.close(0, 1), i == 0 ? 0 : 1);
            Due.is("pours", x.pours(60, 1), i + 1);
        }
        Due.is("acts", x.count(6), 30);
        Due.is("close", x.close(1, 1), -5);
        Due.is("pours", x.pours(60, 1), -5);
        Due.is("none such first", x.close(2, 1), -2);
        Due.is("none such first", x.close(0, 2), -2);
        Due.is("none such first", x.pours(61, 1), -2);
        Due.is("none such first", x.pours(60, 31), -2);
        Due.is("acts", x.count(6), 30);
        Due.is("level", x.level(60), 15);
        Due.is("undo", x.undo(), 29);
        Due.is("close", x.close(1, 1), 0);
        Due.is("close", x.close(1, 0), -5);
        Due.is("anew", x.anew(), 30);
        Due.is("close", x.close(1, 1), 0);
    }

    private static void deepen() {
        QuotedRiver x = Due.told(Samples.FOUR);
        Due.is("sea", x.sea(0, 2), -1);
        Due.is("deepen", x.deepen(2, 3), 4);
        Due.is("sea", x.sea(0, 2), 9);
        Due.is("low", x.reach(2, 2), 3);
        Due.is("deepen", x.deepen(2, 20), 3);
        Due.is("deepen", x.deepen(2, 0), 20);
        Due.is("dry", x.dry(2), -1);
        Due.is("no act", x.count(6), 0);
        Due.is("undo", x.undo(), -5);
        int[][] none = {{4, 0}, {-1, 0}, {0, 21}, {0, -1}, {Integer.MAX_VALUE, 0}, {0, Integer.MIN_VALUE}};
        for (int[] row : none) {
            Due.is("deepen " + row[0] + " " + row[1], x.deepen(row[0], row[1]), -2);
        }
        x.pours(0, 1);
        Due.is("deepen", x.deepen(2, 5), -5);
        Due.is("none such first", x.deepen(4, 5), -2);
        Due.is("none such first", x.deepen(2, 21), -2);
        Due.is("low", x.reach(2, 2), 0);
        x.undo();
        Due.is("deepen", x.deepen(2, 5), 0);
        x.close(0, 1);
        Due.is("anew", x.anew(), 1);
        Due.is("low", x.reach(2, 2), 5);
        Due.is("deepen without", new QuotedRiver().deepen(0, 0), -2);
    }

    private static void count() {
        QuotedRiver x = Due.told(Samples.FOUR);
        x.close(0, 1);
        x.pours(0, 1);
        x.pours(0, 1);
        x.feed(1, 2, 3, 4, 5);
        x.row(1, 2, 3);
        x.row(3, 0, 0);
        int[] due = {5, 2, 3, 4, 2, 2, 3, 9, 20, 2};
        for (int what = 0; what < 10; what++) {
            Due.is("count " + what, x.count(what), due[what]);
        }
        for (int none : new int[] {-1, 10, Integer.MAX_VALUE, Integer.MIN_VALUE}) {
            Due.is("count " + none, x.count(none), -1);
        }
        x.row(1, 0, 0);
        Due.is("SLOTS", x.count(9), 2);
        x.row(0, 0, 60);
        x.row(2, 3, 60);
        Due.is("SLOTS", x.count(9), 4);
    }

    private static void images() {
        QuotedRiver x = Due.told(Samples.FOUR);
        Due.is("back", x.back(0), -6);
        Due.is("image", x.image(0), 0);
        Due.is("deepen", x.deepen(2, 0), 4);
        Due.is("close", x.close(0, 1), 0);
        Due.is("pours", x.pours(3, 2), 10);
        Due.is("image", x.image(2), 0);
        Due.is("back", x.back(1), -6);
        Due.is("back", x.back(0), 0);
        Due.is("acts", x.count(6), 0);
        Due.is("low", x.reach(2, 2), 4);
        Due.is("level", x.level(3), 8);
        Due.is("goes", x.goes(0, 1), 1);
        Due.is("rivers", Due.tell(x, Samples.GAPS), 4);
        Due.is("back", x.back(2), 0);
        Due.is("acts", x.count(6), 2);
        Due.is("LINES", x.count(7), 9);
        Due.is("low", x.reach(2, 2), 0);
        Due.is("level", x.level(3), 10);
        Due.is("goes", x.goes(0, 1), 0);
        Due.is("join", x.join(1, 2), 2);
        Due.is("rain", x.rain(1, 0), 2);
        Due.is("undo", x.undo(), 1);
        Due.is("level", x.level(3), 8);
        // What came behind it is no part of an IMAGE, and it is kept for the next time.
        Due.is("back", x.back(2), 0);
        Due.is("acts", x.count(6), 2);
        Due.is("level", x.level(3), 10);
        // An IMAGE in place of another.
        Due.is("rivers", Due.tell(x, Samples.GAPS), 4);
        Due.is("image", x.image(2), 0);
        Due.is("rivers", Due.tell(x, Samples.FOUR), 9);
        Due.is("back", x.back(2), 0);
        Due.is("LINES", x.count(7), 4);
        Due.is("swell", x.count(2), 1);
        Due.is("sea", x.sea(0, 0), 51);
        Due.is("reach", x.reach(1, 0), -2);
        for (int none : new int[] {-1, 3, Integer.MAX_VALUE, Integer.MIN_VALUE}) {
            Due.is("image " + none, x.image(none), -2);
            Due.is("back " + none, x.back(none), -2);
        }
        // TAPE and SLOTS are no part of it.
        x.feed(1, 2, 3, 4, 5);
        x.row(0, 0, 1);
        Due.is("back", x.back(0), 0);
        Due.is("TAPE", x.count(8), 20);
        Due.is("SLOTS", x.count(9), 1);
    }

    private static void imageOfNone() {
        QuotedRiver x = new QuotedRiver();
        Due.is("image", x.image(1), 0);
        Due.is("rivers", Due.tell(x, Samples.FOUR), 9);
        Due.is("pours", x.pours(3, 2), 10);
        Due.is("back", x.back(1), 0);
        Due.is("level", x.level(0), -2);
        Due.is("acts", x.count(6), 0);
        Due.is("REACHES", x.count(3), 0);
        Due.is("undo", x.undo(), -2);
    }

    /** The 512th call is answered as the first one; what was taken back ahead of it counts no more. */
    private static void lastCalls() {
        QuotedRiver x = Due.told(Samples.FOUR);
        int calls = (Samples.FOUR.length() + 19) / 20 + 2;
        for (int round = 0; calls + 31 <= 512 - 10; round++) {
            for (int act = 0; act < 30; act++) {
                Due.is("close " + round + " " + act, x.close(0, 1 - act % 2), act % 2);
            }
            Due.is("anew " + round, x.anew(), 30);
            calls += 31;
        }
        for (; calls < 512 - 3; calls++) {
            Due.is("sea " + calls, x.sea(0, 0), 3);
        }
        Due.is("510th", x.close(0, 1), 0);
        Due.is("511th", x.sea(0, 0), 7);
        Due.is("512th", x.undo(), 0);
    }
}
