/** Promises 42 and 59 to 62: two cities at their SLUICES. */
public final class SluicesTest {
    public static void main(String[] args) {
        QuotedRiver x = new QuotedRiver();
        sluices(x);
        sluices(Due.told(Samples.FOUR));
        Due.end();
    }

    private static void sluices(QuotedRiver x) {
        // 6 x - x (x + y)
        int[][] has = {
            {0, 0, 0, 0, 0},
            {5, 4, 3, 2, 1},
            {8, 6, 4, 2, 0},
            {9, 6, 3, 0, -3},
            {8, 4, 0, -4, -8},
        };
        for (int first = 0; first <= 4; first++) {
            for (int other = 0; other <= 4; other++) {
                Due.is("has " + first + " " + other, x.has(first, other), has[first][other]);
            }
        }
        for (int none : new int[] {-1, 5, Integer.MAX_VALUE, Integer.MIN_VALUE}) {
            Due.is("has " + none, x.has(none, 0), -1000);
            Due.is("has 0 " + none, x.has(0, none), -1000);
            Due.is("answer " + none, x.answer(none), -2);
        }
        int[] answer = {3, 2, 2, 1, 1};
        for (int other = 0; other <= 4; other++) {
            Due.is("answer " + other, x.answer(other), answer[other]);
        }
        // 1 and 3, 2 and 2, 3 and 1.
        Due.is("rests", x.rests(), 3);
        Due.is("rest", x.rest(), 13);
        Due.is("treaty", x.treaty(), 9);
    }
}
