/** Promises 65 to 68 and 71 to 74: acts, what is taken back, what there is, and IMAGES. */
final class EdgesOfActs {
    private static final int SEA = Samples.SEA;
    private static final int[] ENDS = {Integer.MAX_VALUE, Integer.MIN_VALUE};

    /** 0 to 1 by the first JOIN, else to 2 by the second, else to the sea. */
    private static final String TWO_JOINS = Samples.rivers(5) + Samples.reach(SEA).repeat(3) + Samples.join(0, 1, 1, 0)
            + Samples.join(0, 2, 1, 0);

    private EdgesOfActs() {
    }

    static void run() {
        close();
        closeRefused();
        pours();
        poursRefused();
        undo();
        undoRefused();
        anew();
        deepen();
        deepenRefused();
        count();
        image();
        imageKeeps();
        back();
        backRefused();
    }

    private static void close() {
        Sentences.promise(65, "A JOIN is shut (on 1), or open (on 0): 1 if it was shut, else 0.");
        QuotedRiver x = Due.told(TWO_JOINS);
        Due.is("open, was open", x.close(0, 0), 0);
        Due.is("by the first", x.where(0, 0, 1), 1);
        Due.is("shut, was open", x.close(0, 1), 0);
        Due.is("by the second", x.where(0, 0, 1), 2);
        Due.is("shut, was shut", x.close(0, 1), 1);
        Due.is("by the second", x.where(0, 0, 1), 2);
        Due.is("the other one was open", x.close(1, 1), 0);
        Due.is("as told", x.where(0, 0, 1), -1);
        Due.is("open, was shut", x.close(0, 0), 1);
        Due.is("by the first", x.where(0, 0, 1), 1);
        Due.is("the other one was shut", x.close(1, 0), 1);
        Due.is("each is an act", x.count(6), 6);
        QuotedRiver five = Due.told(Samples.HIGH + Samples.reach(SEA) + Samples.join(0, 0, 1, 0).repeat(5));
        for (int join = 0; join < 5; join++) {
            Due.is("close " + join, five.close(join, 1), 0);
            Due.is("shut " + join, five.goes(join, 0), 0);
            Due.is("the next", join < 4 ? five.goes(join + 1, 0) : 1, 1);
        }
        Due.is("all are shut", five.sea(0, 0), 1);
    }

    private static void closeRefused() {
        Sentences.promise(65, "-2: there are none such;");
        QuotedRiver x = Due.told(TWO_JOINS);
        for (int join : new int[] {-1, 2, 5, ENDS[0], ENDS[1]}) {
            Due.is("close " + join, x.close(join, 1), -2);
        }
        for (int on : new int[] {-1, 2, ENDS[0], ENDS[1]}) {
            Due.is("on " + on, x.close(0, on), -2);
        }
        Due.is("no act", x.count(6), 0);
        Due.is("not shut", x.goes(0, 0), 1);
        Due.is("no JOINS", Due.told(Samples.HIGH + Samples.reach(SEA)).close(0, 1), -2);
        Due.is("no RIVERS", new QuotedRiver().close(0, 1), -2);
        Sentences.promise(65, "-5: there are 30 acts (not taken back).");
        for (int i = 0; i < 29; i++) {
            Due.is("close", x.close(1, 1), i == 0 ? 0 : 1);
        }
        Due.is("the 30th", x.close(0, 1), 0);
        Due.is("the 31st", x.close(0, 0), -5);
        Due.is("it stays", x.goes(0, 0), 0);
        Due.is("acts", x.count(6), 30);
        Due.is("none such", x.close(2, 0), -2);
        Due.is("undo", x.undo(), 29);
        Due.is("the 30th again", x.close(0, 1), 0);
        Due.is("the 31st again", x.close(0, 0), -5);
    }

    private static void pours() {
        Sentences.promise(66, "It rains n (1 .. 30) at a STEP besides: LEVEL then.");
        QuotedRiver x = Due.told(Samples.rivers(5) + Samples.rain(4, 10));
        Due.is("1 at 0", x.pours(0, 1), 6);
        Due.is("30 at 10", x.pours(10, 30), 34);
        Due.is("besides, again", x.pours(10, 30), 64);
        Due.is("30 at 60", x.pours(60, 30), 14 + 30);
        Due.is("ahead of it", x.level(9), 0);
        Due.is("behind it", x.level(11), 63);
        Due.is("at 60", x.level(60), 44);
        Due.is("as told it stays", x.rain(0, 0), 4);
        Due.is("RAINS as told", x.count(5), 1);
        Due.is("acts", x.count(6), 4);
    }

    private static void poursRefused() {
        Sentences.promise(66, "-2: there are none such, no RIVERS;");
        QuotedRiver x = Due.told(Samples.rivers(5) + Samples.reach(SEA) + Samples.join(0, 0, 1, 0));
        for (int step : new int[] {-1, 61, ENDS[0], ENDS[1]}) {
            Due.is("pours at " + step, x.pours(step, 1), -2);
        }
        for (int n : new int[] {0, -1, 31, ENDS[0], ENDS[1]}) {
            Due.is("pours " + n, x.pours(0, n), -2);
        }
        Due.is("no act", x.count(6), 0);
        Due.is("level", x.level(0), 5);
        Due.is("no RIVERS", new QuotedRiver().pours(0, 1), -2);
        Sentences.promise(66, "-5 likewise.");
        for (int i = 0; i < 29; i++) {
            Due.is("close", x.close(0, 1), i == 0 ? 0 : 1);
        }
        Due.is("the 30th", x.pours(0, 1), 6);
        Due.is("the 31st", x.pours(0, 1), -5);
        Due.is("the 31st at another", x.pours(7, 1), -5);
        Due.is("level", x.level(0), 6);
        Due.is("none such", x.pours(61, 1), -2);
        Due.is("none such", x.pours(0, 0), -2);
        Due.is("undo", x.undo(), 29);
        Due.is("the 30th again", x.pours(0, 2), 7);
    }

    private static void undo() {
        Sentences.promise(67, "The latest act is taken back: how many there are.");
        QuotedRiver x = Due.told(TWO_JOINS);
        x.close(0, 1);
        x.pours(3, 9);
        x.close(0, 0);
        x.pours(3, 1);
        Due.is("level", x.level(3), 12);
        Due.is("undo", x.undo(), 3);
        Due.is("level", x.level(3), 11);
        Due.is("open", x.goes(0, 0), 1);
        Due.is("undo", x.undo(), 2);
        Due.is("shut again", x.goes(0, 0), 0);
        Due.is("level", x.level(3), 11);
        Due.is("undo", x.undo(), 1);
        Due.is("level", x.level(3), 2);
        Due.is("undo", x.undo(), 0);
        Due.is("open as told", x.goes(0, 0), 1);
        // An act that changed nothing is one, too: the one ahead of it stays.
        x.close(0, 1);
        x.close(0, 1);
        Due.is("undo", x.undo(), 1);
        Due.is("shut", x.goes(0, 0), 0);
        // All 30 of them.
        for (int i = 0; i < 29; i++) {
            x.pours(60, 30);
        }
        for (int i = 29; i >= 0; i--) {
            Due.is("level", x.level(60), 30 * i);
            Due.is("undo", x.undo(), i);
        }
    }

    private static void undoRefused() {
        Sentences.promise(67, "-2: there are no RIVERS;");
        Due.is("no RIVERS", new QuotedRiver().undo(), -2);
        QuotedRiver x = Due.told(TWO_JOINS);
        x.close(0, 1);
        Due.is("rivers of nothing", x.rivers(), 0);
        Due.is("no more RIVERS", x.undo(), -2);
        Sentences.promise(67, "-5: there is none.");
        Due.is("rivers", Due.tell(x, TWO_JOINS), 6);
        Due.is("none", x.undo(), -5);
        x.close(0, 1);
        Due.is("the one", x.undo(), 0);
        Due.is("none", x.undo(), -5);
        Due.is("acts", x.count(6), 0);
        Due.is("a refused one is none", x.close(2, 1), -2);
        Due.is("none", x.undo(), -5);
    }

    private static void anew() {
        Sentences.promise(68, "All are: how many there were.");
        QuotedRiver x = Due.told(TWO_JOINS);
        Due.is("none", x.anew(), 0);
        x.close(0, 1);
        x.pours(3, 9);
        x.close(1, 1);
        Due.is("three", x.anew(), 3);
        Due.is("acts", x.count(6), 0);
        Due.is("open", x.goes(0, 0), 1);
        Due.is("open", x.goes(1, 0), 1);
        Due.is("level", x.level(3), 2);
        Due.is("none is left", x.undo(), -5);
        Due.is("none", x.anew(), 0);
        for (int i = 0; i < 30; i++) {
            x.pours(3, 1);
        }
        Due.is("30", x.anew(), 30);
        Due.is("level", x.level(3), 2);
        Due.is("and 30 again", x.pours(3, 1), 3);
        Sentences.promise(68, "-2 likewise.");
        Due.is("no RIVERS", new QuotedRiver().anew(), -2);
    }

    private static void deepen() {
        Sentences.promise(71, "low of a REACH is n (0 .. 20) from now on: what it was.");
        QuotedRiver x = Due.told(Samples.EMPTY + Samples.reach(SEA, 1, 7) + Samples.reach(SEA, 1, 9));
        Due.is("deepen to 0", x.deepen(0, 0), 7);
        Due.is("it goes", x.sea(0, 0), 1);
        Due.is("deepen to 20", x.deepen(0, 20), 0);
        Due.is("low", x.reach(0, 2), 20);
        Due.is("it STANDS", x.sea(0, 0), -1);
        Due.is("20 is needed", x.pour(0, 0, 0), 20);
        Due.is("the other one stays", x.reach(1, 2), 9);
        // It is no act: nothing takes it back, and from now on is also behind acts that are.
        Due.is("no act", x.count(6), 0);
        Due.is("undo", x.undo(), -5);
        x.pours(0, 1);
        Due.is("anew", x.anew(), 1);
        Due.is("low", x.reach(0, 2), 20);
        Due.is("rivers as told", Due.tell(x, Samples.EMPTY + Samples.reach(SEA, 1, 7)), 2);
        Due.is("low as told", x.reach(0, 2), 7);
    }

    private static void deepenRefused() {
        Sentences.promise(71, "-2: there are none such;");
        QuotedRiver x = Due.told(Samples.EMPTY + Samples.reach(SEA, 1, 7) + Samples.join(0, 0, 1, 0));
        for (int reach : new int[] {-1, 1, 10, ENDS[0], ENDS[1]}) {
            Due.is("deepen " + reach, x.deepen(reach, 5), -2);
        }
        for (int n : new int[] {-1, 21, ENDS[0], ENDS[1]}) {
            Due.is("deepen to " + n, x.deepen(0, n), -2);
        }
        Due.is("low", x.reach(0, 2), 7);
        Due.is("no RIVERS", new QuotedRiver().deepen(0, 5), -2);
        Sentences.promise(71, "-5: there are acts that are not taken back.");
        x.close(0, 0);
        Due.is("one", x.deepen(0, 5), -5);
        x.pours(0, 1);
        Due.is("two", x.deepen(0, 5), -5);
        Due.is("none such", x.deepen(0, 21), -2);
        Due.is("low", x.reach(0, 2), 7);
        Due.is("undo", x.undo(), 1);
        Due.is("one", x.deepen(0, 5), -5);
        Due.is("undo", x.undo(), 0);
        Due.is("none", x.deepen(0, 5), 7);
    }

    private static void count() {
        Sentences.promise(72, "0 level, 1 odds, 2 swell, 3 REACHES, 4 JOINS, 5 RAINS, 6 acts, 7 LINES, 8 bytes of the "
                + "TAPE, 9 SLOTS that have a row.");
        QuotedRiver x = Due.told(Samples.rivers(11, 2, 3) + Samples.reach(SEA).repeat(5) + Samples.join(0, 0, 1, 0).repeat(4)
                + Samples.rain(1, 0));
        for (int i = 0; i < 7; i++) {
            x.pours(0, 1);
        }
        x.feed(0, 0, 0, 0, 0);
        x.end(13);
        for (int slot = 0; slot < 4; slot++) {
            Due.is("SLOTS", x.count(9), slot);
            x.row(slot, 0, 0);
            x.row(slot, 1, 60);
        }
        // level is as told, though it rained at STEP 0.
        int[] due = {11, 2, 3, 5, 4, 1, 7, 11, 13, 4};
        for (int what = 0; what <= 9; what++) {
            Due.is("count " + what, x.count(what), due[what]);
        }
        QuotedRiver most = Due.told(Samples.rivers(60, 10, 9) + Samples.reach(9).repeat(10)
                + Samples.join(9, 9, 1, 0).repeat(5) + Samples.rain(1, 0).repeat(5));
        int[] ends = {60, 10, 9, 10, 5, 5, 0, 21, 0, 0};
        for (int what = 0; what <= 9; what++) {
            Due.is("most " + what, most.count(what), ends[what]);
        }
        Sentences.promise(72, "NONE for others.");
        for (int what : new int[] {-1, 10, ENDS[0], ENDS[1]}) {
            Due.is("count " + what, x.count(what), -1);
            Due.is("count " + what + ", no RIVERS", new QuotedRiver().count(what), -1);
        }
    }

    private static void image() {
        Sentences.promise(73, "IMAGE k (0 .. 2) keeps the RIVERS, and acts: 0.");
        QuotedRiver x = new QuotedRiver();
        for (int k = 0; k < 3; k++) {
            Due.is("rivers", Due.tell(x, Samples.rivers(k + 1)), 1);
            x.pours(9, k + 4);
            Due.is("image " + k, x.image(k), 0);
            Due.is("as it is", x.count(6), 1);
        }
        for (int k = 0; k < 3; k++) {
            Due.is("back " + k, x.back(k), 0);
            Due.is("level", x.level(0), k + 1);
            Due.is("poured", x.level(9), k + 4);
        }
        // In place of what it kept.
        Due.is("image 0 of 2", x.image(0), 0);
        Due.is("back 1", x.back(1), 0);
        Due.is("back 0", x.back(0), 0);
        Due.is("level", x.level(0), 3);
        Sentences.promise(73, "-2: no such k.");
        for (int k : new int[] {-1, 3, ENDS[0], ENDS[1]}) {
            Due.is("image " + k, x.image(k), -2);
            Due.is("image " + k + ", no RIVERS", new QuotedRiver().image(k), -2);
        }
    }

    /** What is kept is no longer touched by what is done, and all of it is kept. */
    private static void imageKeeps() {
        Sentences.promise(73, "IMAGE k (0 .. 2) keeps the RIVERS, and acts: 0.");
        QuotedRiver x = Due.told(TWO_JOINS + Samples.rain(4, 7));
        Due.is("deepen", x.deepen(2, 5), 0);
        x.close(0, 1);
        x.pours(3, 9);
        Due.is("image", x.image(1), 0);
        // Other acts, in place of these and more of them; another low; other RIVERS.
        Due.is("anew", x.anew(), 2);
        Due.is("deepen", x.deepen(2, 20), 5);
        x.pours(8, 30);
        x.close(1, 1);
        x.pours(60, 30);
        Due.is("back", x.back(1), 0);
        asKept(x);
        Due.is("rivers", Due.tell(x, Samples.rivers(60, 10, 9) + Samples.reach(9, 5, 20).repeat(10)
                + Samples.join(5, 5, 9, 5).repeat(5) + Samples.rain(30, 60).repeat(5)), 21);
        x.close(4, 1);
        x.close(3, 1);
        x.pours(0, 1);
        Due.is("back", x.back(1), 0);
        asKept(x);
        Due.is("rivers of nothing", x.rivers(), 0);
        Due.is("back", x.back(1), 0);
        asKept(x);
        Due.is("undo", x.undo(), 1);
        Due.is("level", x.level(3), 2);
        Due.is("undo", x.undo(), 0);
        Due.is("goes", x.goes(0, 0), 1);
        Due.is("back", x.back(1), 0);
        asKept(x);
    }

    private static void asKept(QuotedRiver x) {
        int[] due = {5, 0, 1, 3, 2, 1, 2, 7};
        for (int what = 0; what <= 7; what++) {
            Due.is("count " + what, x.count(what), due[what]);
        }
        Due.is("low", x.reach(2, 2), 5);
        Due.is("takes", x.reach(2, 1), 1);
        Due.is("flows", x.reach(2, 0), -1);
        Due.is("JOIN from", x.join(1, 0), 0);
        Due.is("JOIN to", x.join(1, 1), 2);
        Due.is("JOIN each", x.join(1, 2), 1);
        Due.is("JOIN at", x.join(1, 3), 0);
        Due.is("RAIN", x.rain(0, 0), 4);
        Due.is("its STEP", x.rain(0, 1), 7);
        Due.is("shut", x.goes(0, 0), 0);
        Due.is("open", x.goes(1, 0), 1);
        Due.is("level 3", x.level(3), 11);
        Due.is("level 8", x.level(8), 10);
        Due.is("level 60", x.level(60), 0);
    }

    private static void back() {
        Sentences.promise(74, "It is as IMAGE k has it: 0.");
        QuotedRiver x = new QuotedRiver();
        Due.is("image of no RIVERS", x.image(2), 0);
        Due.is("rivers", Due.tell(x, TWO_JOINS), 6);
        x.pours(0, 1);
        Due.is("back", x.back(2), 0);
        Due.is("no RIVERS", x.level(0), -2);
        for (int what = 0; what <= 7; what++) {
            Due.is("count " + what, x.count(what), 0);
        }
        // TAPE, FAULT and SLOTS are none of it.
        Due.is("rivers", Due.tell(x, "!"), -4);
        Due.row(x, 3, 0, 1, 0);
        x.feed(0, 0, 0, 0, 0);
        Due.is("back", x.back(2), 0);
        Due.is("fault", x.fault(0), 1);
        Due.is("place", x.fault(1), 0);
        Due.is("SLOTS", x.count(9), 1);
        Due.is("TAPE", x.count(8), 20);
    }

    private static void backRefused() {
        Sentences.promise(74, "-2: no such k;");
        QuotedRiver x = Due.told(TWO_JOINS);
        Due.is("image", x.image(0), 0);
        Due.is("image", x.image(1), 0);
        for (int k : new int[] {-1, 3, ENDS[0], ENDS[1]}) {
            Due.is("back " + k, x.back(k), -2);
        }
        Sentences.promise(74, "-6: it has nothing.");
        x.pours(0, 1);
        Due.is("back 2", x.back(2), -6);
        Due.is("it stays", x.count(6), 1);
        Due.is("a new object", new QuotedRiver().back(0), -6);
    }
}
