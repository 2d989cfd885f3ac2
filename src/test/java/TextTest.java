/** Promises 1 to 8: a new object, the TAPE, the text, FAULTS, and what was told. */
public final class TextTest {
    private static final String HEAD = "rivers level 5 odds 2 swell 3;";
    private static final String REACH = "reach to 1 takes 2 low 3;";

    public static void main(String[] args) {
        aNewObject();
        feedAndEnd();
        bytesOfFeed();
        linesOfRivers();
        riversInPlaceOfOthers();
        faultOfToken();
        faultOfOtherWord();
        faultOfNumber();
        faultOfMany();
        faultOfTheLatest();
        whatWasTold();
        Due.end();
    }

    private static void aNewObject() {
        QuotedRiver x = new QuotedRiver();
        for (int what = 0; what <= 9; what++) {
            Due.is("count(" + what + ")", x.count(what), 0);
        }
        Due.is("mouths", x.mouths(), -2);
        Due.is("reach", x.reach(0, 0), -2);
        Due.is("join", x.join(0, 0), -2);
        Due.is("rain", x.rain(0, 0), -2);
        Due.is("fault 0", x.fault(0), 0);
        Due.is("fault 1", x.fault(1), -1);
        Due.is("fault 2", x.fault(2), -1);
        Due.is("fault -1", x.fault(-1), -1);
        Due.is("undo", x.undo(), -2);
        Due.is("anew", x.anew(), -2);
        Due.is("back", x.back(0), -6);
        Due.is("NONE", QuotedRiver.NONE, -1);
    }

    private static void feedAndEnd() {
        QuotedRiver x = new QuotedRiver();
        Due.is("end 0", x.end(0), 0);
        Due.is("end 1", x.end(1), -1);
        for (int i = 1; i <= 35; i++) {
            Due.is("feed " + i, x.feed(0, 0, 0, 0, 0), 20 * i);
        }
        Due.is("feed over 700", x.feed(0, 0, 0, 0, 0), -1);
        Due.is("bytes", x.count(8), 700);
        Due.is("end 701", x.end(701), -1);
        Due.is("end -1", x.end(-1), -1);
        Due.is("end least", x.end(Integer.MIN_VALUE), -1);
        Due.is("bytes", x.count(8), 700);
        Due.is("end 700", x.end(700), 700);
        Due.is("end 681", x.end(681), 681);
        Due.is("feed to 701", x.feed(0, 0, 0, 0, 0), -1);
        Due.is("end 680", x.end(680), 680);
        Due.is("feed to 700", x.feed(0, 0, 0, 0, 0), 700);
        Due.is("end 0", x.end(0), 0);
        Due.is("bytes", x.count(8), 0);
    }

    private static void bytesOfFeed() {
        QuotedRiver x = new QuotedRiver();
        // "rivers level 5 odds 0 swell 1 ;" in three fives of numbers, the highest byte first.
        Due.is("feed", x.feed(0x72697665, 0x7273206c, 0x6576656c, 0x2035206f, 0x64647320), 20);
        Due.is("feed", x.feed(0x30207377, 0x656c6c20, 0x31203b20, 0x20202020, 0x20202020), 40);
        Due.is("rivers", x.rivers(), 1);
        Due.is("level", x.count(0), 5);
        // A byte above 127 is a TOKEN that is none; a number below 0 has such.
        Due.is("feed", x.feed(-1, 0, 0, 0, 0), 20);
        Due.is("end", x.end(1), 1);
        Due.is("rivers", x.rivers(), -4);
        Due.is("fault", x.fault(0), 1);
        Due.is("place", x.fault(1), 0);
    }

    private static void linesOfRivers() {
        lines("", 0);
        lines(" \n \n", 0);
        lines(HEAD, 1);
        lines("rivers level 0 odds 0 swell 1;", 1);
        lines("rivers level 60 odds 10 swell 9;", 1);
        lines("rivers\nlevel005odds 2swell3;reach to0takes1low0;", 2);
        lines("\n rivers level 5 odds 2 swell 3 ; \n", 1);
        lines(HEAD + "reach to sea takes 1 low 0;reach to 9 takes 5 low 20;", 3);
        lines(HEAD + REACH + "join 0 to 0 each 1 at 0;join 0 to 0 each 9 at 8;", 4);
        lines(HEAD + "rain 1 at 0;rain 30 at 60;", 3);
        lines(HEAD + "rain 1 at 0;" + REACH + "join 0 to 0 each 1 at 0;" + REACH, 5);
        lines(HEAD + repeat(REACH, 10) + repeat("join 9 to 9 each 1 at 0;", 5) + repeat("rain 1 at 1;", 5), 21);
    }

    private static void lines(String text, int lines) {
        QuotedRiver x = new QuotedRiver();
        Due.is("rivers of " + text, Due.tell(x, text), lines);
        Due.is("fault of " + text, x.fault(0), 0);
        Due.is("place of " + text, x.fault(1), -1);
        Due.is("LINES of " + text, x.count(7), lines);
        Due.is("TAPE of " + text, x.count(8), 0);
    }

    private static void riversInPlaceOfOthers() {
        QuotedRiver x = Due.told(Samples.FOUR);
        Due.is("close", x.close(0, 1), 0);
        Due.is("pours", x.pours(1, 9), 15);
        Due.is("rivers", Due.tell(x, HEAD + REACH + "rivers"), -4);
        Due.is("REACHES stay", x.count(3), 4);
        Due.is("acts stay", x.count(6), 2);
        Due.is("TAPE", x.count(8), 0);
        Due.is("level stays", x.level(1), 15);
        Due.is("JOIN stays shut", x.goes(0, 1), 0);
        Due.is("rivers", Due.tell(x, Samples.FOUR), 9);
        Due.is("acts", x.count(6), 0);
        Due.is("level", x.level(1), 6);
        Due.is("JOIN", x.goes(0, 1), 1);
        Due.is("rivers", Due.tell(x, HEAD + REACH), 2);
        Due.is("REACHES", x.count(3), 1);
        Due.is("JOINS", x.count(4), 0);
        Due.is("RAINS", x.count(5), 0);
        Due.is("level", x.level(0), 5);
        Due.is("rivers", x.rivers(), 0);
        Due.is("none", x.level(0), -2);
        Due.is("none", x.count(3), 0);
        Due.is("none", x.count(7), 0);
    }

    private static void faultOfToken() {
        fault("rivers", 1, 6);
        fault("rivers \n ", 1, 9);
        fault("rivers level 5 odds 2 swell 3", 1, 29);
        fault(HEAD + " reach", 1, 36);
        fault(HEAD + HEAD, 1, 30);
        fault(REACH, 1, 0);
        fault(" " + REACH + HEAD, 1, 1);
        fault("join 0 to 0 each 1 at 0;", 1, 0);
        fault("rain 1 at 1;", 1, 0);
        fault(";", 1, 0);
        fault(HEAD + ";", 1, 30);
        fault(HEAD + "12", 1, 30);
        fault("Rivers level 5 odds 2 swell 3;", 1, 0);
        fault("rivers level 5 odds 2 swell 3,", 1, 29);
        fault("rivers\tlevel 5 odds 2 swell 3;", 1, 6);
        fault("rivers level 5 odds 2 swell 3;\r\n", 1, 30);
        fault("rivers level -5 odds 2 swell 3;", 1, 13);
        fault("rivers level odds 2 swell 3;", 1, 13);
        fault("rivers odds 5 level 2 swell 3;", 1, 7);
        fault("riverslevel 5 odds 2 swell 3;", 1, 0);
        fault("river level 5 odds 2 swell 3;", 1, 0);
        fault("rivers level 5 odd 2 swell 3;", 1, 15);
        fault("rivers level 5 odds 2 swell 3 4;", 1, 30);
        fault(HEAD + "reach 1 takes 2 low 3;", 1, 36);
        fault(HEAD + "reach to reach takes 2 low 3;", 1, 39);
        fault(HEAD + "reach to seas takes 2 low 3;", 1, 39);
        fault(HEAD + "reach to seaz takes 2 low 3;", 1, 39);
        fault(HEAD + "reach to asea takes 2 low 3;", 1, 39);
        fault(HEAD + "reach to sea{takes 2 low 3;", 1, 42);
        fault(HEAD + "reach to sea`takes 2 low 3;", 1, 42);
        fault("rivers level 5:odds 2 swell 3;", 1, 14);
        fault("rivers level 5/odds 2 swell 3;", 1, 14);
        fault(HEAD + "reach to sea 1 takes 2 low 3;", 1, 43);
        fault(HEAD + "reach to ; takes 2 low 3;", 1, 39);
        fault(HEAD + REACH + "join 0 to sea each 2 at 0;", 1, 65);
        fault(HEAD + REACH + "join 0 to 0 at 0 each 2;", 1, 67);
        fault(HEAD + "rain at 3;", 1, 35);
        fault(HEAD + "rain 3 at sea;", 1, 40);
        fault(HEAD + "sea", 1, 30);
        fault(HEAD + "\0", 1, 30);
        fault(HEAD + (char) 233, 1, 30);
        // A number where none can stand is a TOKEN that can't, whatever it is; the first FAULT is it.
        fault("rivers 99 level 61;", 1, 7);
        fault("rivers level 61 odds 99 !", 2, 13);
    }

    /** Each word in turn in the place of each other one can't stand there. */
    private static void faultOfOtherWord() {
        String[] words = {"rivers", "level", "odds", "swell", "reach", "to", "sea", "takes", "low", "join", "each", "at",
            "rain"};
        String[] tokens = ("rivers level 5 odds 2 swell 3 ; reach to sea takes 1 low 0 ; join 0 to 0 each 1 at 0 ; "
                + "rain 1 at 0 ;").split(" ");
        Due.is("rivers", Due.tell(new QuotedRiver(), String.join(" ", tokens)), 4);
        for (int i = 0; i < tokens.length; i++) {
            for (String word : words) {
                boolean begins = i > 0 && tokens[i - 1].equals(";") && word.matches("reach|join|rain");
                if (!word.equals(tokens[i]) && !begins) {
                    String[] other = tokens.clone();
                    other[i] = word;
                    fault(String.join(" ", other), 1, String.join(" ", tokens).length()
                            - String.join(" ", java.util.Arrays.copyOfRange(tokens, i, tokens.length)).length());
                }
            }
        }
    }

    private static void faultOfNumber() {
        fault("rivers level 61 odds 2 swell 3;", 2, 13);
        fault("rivers level 60 odds 11 swell 3;", 2, 21);
        fault("rivers level 60 odds 10 swell 0;", 2, 30);
        fault("rivers level 60 odds 10 swell 10", 2, 30);
        fault("rivers level 99999999999999999999999999999999 odds 2 swell 3;", 2, 13);
        fault("rivers level 4294967301 odds 2 swell 3;", 2, 13);
        fault("rivers level 18446744073709551621 odds 2 swell 3;", 2, 13);
        fault(HEAD + "reach to 10 takes 1 low 0;", 2, 39);
        fault(HEAD + "reach to 9 takes 0 low 0;", 2, 47);
        fault(HEAD + "reach to 9 takes 6 low 0;", 2, 47);
        fault(HEAD + "reach to 9 takes 5 low 21;", 2, 53);
        fault(HEAD + "join 0 to 0 each 1 at 0;", 2, 35);
        fault(HEAD + REACH + "join 1 to 0 each 1 at 0;" + REACH, 2, 60);
        fault(HEAD + REACH + "join 0 to 1 each 1 at 0;" + REACH, 2, 65);
        fault(HEAD + REACH + "join 0 to 0 each 0 at 0;", 2, 72);
        fault(HEAD + REACH + "join 0 to 0 each 10 at 0;", 2, 72);
        fault(HEAD + REACH + "join 0 to 0 each 1 at 1;", 2, 77);
        fault(HEAD + REACH + "join 0 to 0 each 9 at 9;", 2, 77);
        fault(HEAD + "rain 0 at 3;", 2, 35);
        fault(HEAD + "rain 31 at 3;", 2, 35);
        fault(HEAD + "rain 30 at 61;", 2, 41);
    }

    private static void faultOfMany() {
        String reaches = HEAD + repeat(REACH, 10);
        fault(reaches + " reach to 99", 3, reaches.length() + 1);
        fault(reaches + "reach", 3, reaches.length());
        String joins = HEAD + REACH + repeat("join 0 to 0 each 1 at 0;", 5);
        fault(joins + "join 9 to 0 each 1 at 0;", 3, joins.length());
        String rains = HEAD + repeat("rain 1 at 0;", 5);
        fault(rains + "\n\nrain 99", 3, rains.length() + 2);
        fault(rains + "rains", 1, rains.length());
    }

    private static void fault(String text, int fault, int place) {
        QuotedRiver x = new QuotedRiver();
        Due.is("rivers of " + text, Due.tell(x, text), -4);
        Due.is("fault of " + text, x.fault(0), fault);
        Due.is("place of " + text, x.fault(1), place);
        Due.is("TAPE of " + text, x.count(8), 0);
        Due.is("LINES of " + text, x.count(7), 0);
        Due.is("level of " + text, x.level(0), -2);
    }

    private static void faultOfTheLatest() {
        QuotedRiver x = new QuotedRiver();
        Due.is("rivers", Due.tell(x, HEAD + "rain 31 at 3;"), -4);
        Due.is("fault", x.fault(0), 2);
        Due.is("place", x.fault(1), 35);
        Due.is("fault 2", x.fault(2), -1);
        Due.is("fault -1", x.fault(-1), -1);
        Due.is("image", x.image(0), 0);
        Due.is("rivers", Due.tell(x, HEAD), 1);
        Due.is("fault", x.fault(0), 0);
        Due.is("place", x.fault(1), -1);
        Due.is("rivers", Due.tell(x, ";"), -4);
        Due.is("fault", x.fault(0), 1);
        Due.is("place", x.fault(1), 0);
        Due.is("back", x.back(0), 0);
        Due.is("fault", x.fault(0), 1);
    }

    private static void whatWasTold() {
        QuotedRiver x = Due.told(Samples.FOUR);
        int[][] reaches = {{1, 2, 3}, {2, 1, 0}, {-1, 1, 4}, {3, 3, 2}};
        int[][] joins = {{0, 2, 3, 1}, {1, 0, 2, 0}};
        int[][] rains = {{4, 3}, {2, 0}};
        for (int i = 0; i < 4; i++) {
            for (int what = 0; what < 3; what++) {
                Due.is("reach " + i + " " + what, x.reach(i, what), reaches[i][what]);
            }
        }
        for (int i = 0; i < 2; i++) {
            for (int what = 0; what < 4; what++) {
                Due.is("join " + i + " " + what, x.join(i, what), joins[i][what]);
            }
            for (int what = 0; what < 2; what++) {
                Due.is("rain " + i + " " + what, x.rain(i, what), rains[i][what]);
            }
        }
        for (int none : new int[] {-1, 4, 10, Integer.MAX_VALUE, Integer.MIN_VALUE}) {
            Due.is("reach " + none, x.reach(none, 0), -2);
            Due.is("reach what " + none, x.reach(0, none), -2);
            Due.is("join " + none, x.join(none, 0), -2);
            Due.is("join what " + none, x.join(0, none), -2);
            Due.is("rain " + none, x.rain(none, 0), -2);
            Due.is("rain what " + none, x.rain(0, none), -2);
        }
        Due.is("reach what 3", x.reach(0, 3), -2);
        Due.is("join 2", x.join(2, 0), -2);
        Due.is("rain 2", x.rain(2, 0), -2);
        Due.is("rain what 2", x.rain(0, 2), -2);
        // A RAIN is told as it was, whatever is poured besides.
        Due.is("pours", x.pours(3, 5), 13);
        Due.is("rain", x.rain(0, 0), 4);
        Due.is("rain 2", x.rain(2, 0), -2);
        // Which REACHES there are is known when the text ends: 1 is told behind, 2 is none.
        QuotedRiver y = Due.told(HEAD + REACH + "reach to 2 takes 1 low 0;");
        Due.is("to 1", y.reach(0, 0), 1);
        Due.is("to none such", y.reach(1, 0), -1);
        Due.is("reach 2", y.reach(2, 0), -2);
    }

    private static String repeat(String s, int n) {
        return s.repeat(n);
    }
}
