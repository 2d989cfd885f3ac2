/** Rivers whose answers the tests have worked out by hand. */
final class Samples {
    private Samples() {
    }

    /**
     * LEVEL: 7 6 5 8 7 6 5 4 3 2 1 0 0 ..; 0 STANDS from 9 on, 1 never, 2 from 8 on, 3 from 10 on.
     * Put into 0 at STEP 0: 0 0 2 sea; at 1: 0 0 1 2 sea; at 2: 0 0 1 0 0 1 2 2 2 ..
     * Put into 1 at STEP 0: 1 0 0 1 2 sea; at 1: 1 2 sea; at 2: 1 0 0 2 sea.
     */
    static final String FOUR = "rivers level 5 odds 2 swell 3;\n"
            + "reach to 1 takes 2 low 3;\n"
            + "reach to 2 takes 1 low 0;\n"
            + "reach to sea takes 1 low 4;\n"
            + "reach to 3 takes 3 low 2;\n"
            + "join 0 to 2 each 3 at 1;\n"
            + "join 1 to 0 each 2 at 0;\n"
            + "rain 4 at 3;\n"
            + "rain 2 at 0;\n";

    /** LEVEL: 1 0 5 4 3 2 1 0 .. 0, 9 at 50, 8 .. 0 at 59, 0. One REACH, low 2: STANDS at 0, 1, 6 .. 49, 58 .. 60. */
    static final String GAPS = "rivers level 1 odds 10 swell 1;reach to sea takes 5 low 2;rain 5 at 2;rain 9 at 50;";

    /** LEVEL 1 at STEP 0; with the chance of 2 in ten 3 more. */
    static final String CHANCE = "rivers level 1 odds 2 swell 3;reach to sea takes 1 low 1;reach to 0 takes 1 low 4;";

    /** Never low: 0 -> 1, 2 or 3 in turn -> 4 -> sea. */
    static final String FORK = "rivers level 60 odds 0 swell 1;"
            + "reach to 1 takes 1 low 0;reach to 4 takes 1 low 0;reach to 4 takes 1 low 0;"
            + "reach to 4 takes 1 low 0;reach to sea takes 1 low 0;"
            + "join 0 to 2 each 3 at 1;join 0 to 3 each 3 at 2;";

    // Single LINES, for rivers that a test makes of its own.

    static final int SEA = -1;
    /** Of no REACH is it ever low: 60 at STEP 0, 0 at 60, and no low above 0. */
    static final String HIGH = rivers(60);
    /** LEVEL 0 at each STEP. */
    static final String EMPTY = rivers(0);

    static String rivers(int level) {
        return rivers(level, 0, 1);
    }

    static String rivers(int level, int odds, int swell) {
        return "rivers level " + level + " odds " + odds + " swell " + swell + ";";
    }

    static String reach(int to, int takes, int low) {
        return "reach to " + (to == SEA ? "sea" : String.valueOf(to)) + " takes " + takes + " low " + low + ";";
    }

    /** It takes 1, and never STANDS. */
    static String reach(int to) {
        return reach(to, 1, 0);
    }

    static String join(int from, int to, int each, int at) {
        return "join " + from + " to " + to + " each " + each + " at " + at + ";";
    }

    static String rain(int much, int step) {
        return "rain " + much + " at " + step + ";";
    }
}
