/** Term VII and promises 42 and 59 to 62: two cities at their SLUICES. */
final class EdgesOfSluices {
    private static final int[] NONE_SUCH = {-1, 5, Integer.MAX_VALUE, Integer.MIN_VALUE};

    private EdgesOfSluices() {
    }

    static void run() {
        shares();
        answer();
        rests();
        has();
        treaty();
    }

    private static void shares() {
        Sentences.term("VII", "Two cities let out 0 .. 4 at their sluices: each has 6 times what it lets out, less what "
                + "it lets out times what both do.");
        QuotedRiver x = new QuotedRiver();
        Due.is("none, none", x.has(0, 0), 0);
        Due.is("none, all", x.has(0, 4), 0);
        Due.is("all, none", x.has(4, 0), 24 - 16);
        Due.is("all, all", x.has(4, 4), 24 - 32);
        Due.is("1, 3", x.has(1, 3), 6 - 4);
        Due.is("3, 1", x.has(3, 1), 18 - 12);
        Sentences.term("VII", "REST: neither has more by another number alone.");
        int[][] has = new int[5][5];
        for (int first = 0; first <= 4; first++) {
            for (int other = 0; other <= 4; other++) {
                has[first][other] = x.has(first, other);
            }
        }
        int rests = 0;
        int least = -1;
        for (int first = 4; first >= 0; first--) {
            for (int other = 4; other >= 0; other--) {
                boolean rest = true;
                for (int by = 0; by <= 4; by++) {
                    rest &= has[by][other] <= has[first][other] && has[by][first] <= has[other][first];
                }
                rests += rest ? 1 : 0;
                least = rest ? 10 * first + other : least;
            }
        }
        Due.is("rests", x.rests(), rests);
        Due.is("rest", x.rest(), least);
    }

    private static void answer() {
        Sentences.promise(42, "The least number by which the first city has most (VII), the other one's y (0 .. 4).");
        QuotedRiver x = new QuotedRiver();
        // To 0: 0 5 8 9 8; to 1: 0 4 6 6 4, the least; to 2: 0 3 4 3 0; to 3: 0 2 2 0 -4, the least; to 4: 0 1 0 -3 -8.
        int[] due = {3, 2, 2, 1, 1};
        for (int y = 0; y <= 4; y++) {
            Due.is("answer " + y, x.answer(y), due[y]);
        }
        Due.is("with RIVERS", Due.told(Samples.HIGH).answer(0), 3);
        Sentences.promise(42, "-2: there is none such.");
        for (int none : NONE_SUCH) {
            Due.is("answer " + none, x.answer(none), -2);
        }
    }

    private static void rests() {
        Sentences.promise(59, "SLUICES (VII): pairs of numbers at REST: how many.");
        // 1 and 3, 2 and 2, 3 and 1: also where the one has as much by another number, but not more.
        Due.is("rests", new QuotedRiver().rests(), 3);
        Due.is("with RIVERS", Due.told(Samples.HIGH).rests(), 3);
        Sentences.promise(60, "The first such: 10 times the first city's and the other one's.");
        Due.is("rest", new QuotedRiver().rest(), 13);
        Due.is("with RIVERS", Due.told(Samples.HIGH).rest(), 13);
        Sentences.promise(60, "NONE: none.");
        Due.is("there is one always", new QuotedRiver().rest(), 13);
    }

    private static void has() {
        Sentences.promise(61, "What the first city has by x, y (0 .. 4).");
        QuotedRiver x = new QuotedRiver();
        int[][] due = {{0, 0, 0, 0, 0}, {5, 4, 3, 2, 1}, {8, 6, 4, 2, 0}, {9, 6, 3, 0, -3}, {8, 4, 0, -4, -8}};
        for (int first = 0; first <= 4; first++) {
            for (int other = 0; other <= 4; other++) {
                Due.is("has " + first + " " + other, x.has(first, other), due[first][other]);
            }
        }
        Sentences.promise(61, "-1,000: there are none such.");
        for (int none : NONE_SUCH) {
            Due.is("has " + none, x.has(none, 0), -1000);
            Due.is("has 0 " + none, x.has(0, none), -1000);
        }
    }

    private static void treaty() {
        Sentences.promise(62, "TREATY: the greatest sum of what both have by any.");
        // By 0 and 3, 1 and 2, and the other way round: 6 times 3 less 9.
        Due.is("treaty", new QuotedRiver().treaty(), 9);
        Due.is("with RIVERS", Due.told(Samples.HIGH).treaty(), 9);
    }
}
