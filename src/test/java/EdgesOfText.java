import java.util.ArrayList;
import java.util.Arrays;
import java.util.List;

/** Term I and promises 1 to 8: the TAPE, the text, FAULTS, and what was told. */
final class EdgesOfText {
    /** 30 bytes. */
    private static final String HEAD = "rivers level 5 odds 2 swell 3;";
    /** 25 bytes, to a REACH that may be told behind it. */
    private static final String REACH = "reach to 1 takes 2 low 3;";
    private static final String JOIN = "join 0 to 0 each 2 at 1;";
    private static final String RAIN = "rain 4 at 3;";
    private static final String ONE_OF_EACH = "rivers level 5 odds 2 swell 3 ; reach to sea takes 1 low 0 ; "
            + "join 0 to 0 each 1 at 0 ; rain 1 at 0 ;";

    private EdgesOfText() {
    }

    static void run() {
        lines();
        line();
        otherWords();
        nearWords();
        firstLine();
        boundsOfRivers();
        boundsOfReach();
        noSuchReach();
        toldAhead();
        boundsOfJoin();
        boundsOfRain();
        steps();
        numbered();
        tokens();
        placeOfFault();
        firstFault();
        leastFault();
        faultOfToken();
        faultOfNumber();
        faultOfMany();
        slots();
        refusedFirst();
        newObject();
        feed();
        feedOver();
        end();
        endRefused();
        rivers();
        riversInPlace();
        riversOfNone();
        riversOfFault();
        fault();
        noFault();
        reach();
        join();
        rain();
    }

    private static void reads(String text, int lines) {
        QuotedRiver x = new QuotedRiver();
        Due.is("rivers of " + text, Due.tell(x, text), lines);
        Due.is("fault of " + text, x.fault(0), 0);
        Due.is("place of " + text, x.fault(1), -1);
        Due.is("LINES of " + text, x.count(7), lines);
    }

    private static void fails(String text, int fault, int place) {
        QuotedRiver x = new QuotedRiver();
        Due.is("rivers of " + text, Due.tell(x, text), -4);
        Due.is("fault of " + text, x.fault(0), fault);
        Due.is("place of " + text, x.fault(1), place);
        Due.is("LINES of " + text, x.count(7), 0);
    }

    // Term I.

    private static void lines() {
        Sentences.term("I", "RIVERS: {LINE ;}.");
        reads("", 0);
        reads(HEAD, 1);
        reads(HEAD + RAIN, 2);
        reads(HEAD + RAIN + REACH + JOIN, 4);
        // The sign stands behind each LINE, behind the last one, too, and once.
        fails(HEAD.substring(0, 29), 1, 29);
        fails(HEAD.substring(0, 29) + " " + RAIN, 1, 30);
        fails(HEAD + RAIN.substring(0, 11), 1, 41);
        fails(HEAD + ";", 1, 30);
        fails(";", 1, 0);
        fails(";" + HEAD, 1, 0);
    }

    private static void line() {
        Sentences.term("I", "LINE: rivers level N odds N swell N | reach to R|sea takes N low N | "
                + "join R to R each N at N | rain N at N.");
        reads(ONE_OF_EACH, 4);
        // Without any one TOKEN the next one, and with it twice the second one, can't stand there.
        String[] tokens = ONE_OF_EACH.split(" ");
        int place = 0;
        for (int i = 0; i < tokens.length; i++) {
            List<String> without = new ArrayList<>(Arrays.asList(tokens));
            without.remove(i);
            fails(String.join(" ", without), 1, i + 1 < tokens.length ? place : place - 1);
            List<String> twice = new ArrayList<>(Arrays.asList(tokens));
            twice.add(i, tokens[i]);
            fails(String.join(" ", twice), 1, place + tokens[i].length() + 1);
            place += tokens[i].length() + 1;
        }
    }

    /** Each word has its own place: in that of each other one it can't stand. */
    private static void otherWords() {
        Sentences.term("I", "rivers level N odds N swell N | reach to R|sea takes N low N | join R to R each N at N | "
                + "rain N at N.");
        String[] tokens = ONE_OF_EACH.split(" ");
        int place = 0;
        for (int i = 0; i < tokens.length; i++) {
            for (String word : tokens) {
                boolean begins = place > 0 && tokens[i - 1].equals(";") && word.matches("reach|join|rain");
                boolean toReach = i > 1 && tokens[i - 2].equals("reach") && word.equals("0");
                if (!word.equals(tokens[i]) && !word.matches("[0-9]") && !begins && !toReach) {
                    String[] other = tokens.clone();
                    other[i] = word;
                    fails(String.join(" ", other), 1, place);
                }
            }
            place += tokens[i].length() + 1;
        }
    }

    /** Each word with any one letter another one, one too many or one too few. */
    private static void nearWords() {
        Sentences.term("I", "rivers level N odds N swell N | reach to R|sea takes N low N | join R to R each N at N | "
                + "rain N at N.");
        String[] tokens = ONE_OF_EACH.split(" ");
        int place = 0;
        for (int i = 0; i < tokens.length; i++) {
            for (int at = 0; at < tokens[i].length() && tokens[i].matches("[a-z]+"); at++) {
                String[] other = tokens.clone();
                other[i] = tokens[i].substring(0, at) + "q" + tokens[i].substring(at + 1);
                fails(String.join(" ", other), 1, place);
                other[i] = tokens[i].substring(0, at) + tokens[i].substring(at + 1);
                fails(String.join(" ", other), 1, place);
                other[i] = tokens[i].substring(0, at) + tokens[i].charAt(at) + tokens[i].substring(at);
                fails(String.join(" ", other), 1, place);
            }
            place += tokens[i].length() + 1;
        }
    }

    private static void firstLine() {
        Sentences.term("I", "rivers is the first LINE and no other:");
        fails(REACH, 1, 0);
        fails(RAIN, 1, 0);
        fails(JOIN, 1, 0);
        fails(REACH + HEAD, 1, 0);
        fails(HEAD + HEAD, 1, 30);
        fails(HEAD + REACH + HEAD, 1, 55);
    }

    private static void boundsOfRivers() {
        Sentences.term("I", "level 0 .. 60,");
        reads("rivers level 0 odds 2 swell 3;", 1);
        Due.is("level 0", Due.told("rivers level 0 odds 2 swell 3;").count(0), 0);
        Due.is("level 60", Due.told("rivers level 60 odds 2 swell 3;").count(0), 60);
        fails("rivers level 61 odds 2 swell 3;", 2, 13);
        Sentences.term("I", "odds 0 .. 10,");
        Due.is("odds 0", Due.told("rivers level 5 odds 0 swell 3;").count(1), 0);
        Due.is("odds 10", Due.told("rivers level 5 odds 10 swell 3;").count(1), 10);
        reads("rivers level 5 odds 0 swell 3;", 1);
        fails("rivers level 5 odds 11 swell 3;", 2, 20);
        Sentences.term("I", "swell 1 .. 9.");
        Due.is("swell 1", Due.told("rivers level 5 odds 2 swell 1;").count(2), 1);
        Due.is("swell 9", Due.told("rivers level 5 odds 2 swell 9;").count(2), 9);
        fails("rivers level 5 odds 2 swell 0;", 2, 28);
        fails("rivers level 5 odds 2 swell 10;", 2, 28);
    }

    private static void boundsOfReach() {
        Sentences.term("I", "reach: R 0 .. 9");
        reads(HEAD + "reach to 0 takes 2 low 3;", 2);
        reads(HEAD + "reach to 9 takes 2 low 3;", 2);
        fails(HEAD + "reach to 10 takes 2 low 3;", 2, 39);
        Sentences.term("I", ", takes 1 .. 5,");
        Due.is("takes 1", Due.told(HEAD + "reach to 1 takes 1 low 3;").reach(0, 1), 1);
        Due.is("takes 5", Due.told(HEAD + "reach to 1 takes 5 low 3;").reach(0, 1), 5);
        fails(HEAD + "reach to 1 takes 0 low 3;", 2, 47);
        fails(HEAD + "reach to 1 takes 6 low 3;", 2, 47);
        Sentences.term("I", "low 0 .. 20.");
        reads(HEAD + "reach to 1 takes 2 low 0;", 2);
        Due.is("low 0", Due.told(HEAD + "reach to 1 takes 2 low 0;").reach(0, 2), 0);
        Due.is("low 20", Due.told(HEAD + "reach to 1 takes 2 low 20;").reach(0, 2), 20);
        fails(HEAD + "reach to 1 takes 2 low 21;", 2, 53);
    }

    private static void noSuchReach() {
        Sentences.term("I", "(the sea, if there is no such REACH as the text ends; itself, too)");
        // 0 to 1, 1 to 2, 2 to 3, which is none; each but the last is told ahead of the one into which it flows.
        QuotedRiver x = Due.told(HEAD + "reach to 1 takes 1 low 0;reach to 2 takes 1 low 0;" + RAIN
                + "reach to 3 takes 1 low 0;");
        Due.is("to 1", x.reach(0, 0), 1);
        Due.is("to 2", x.reach(1, 0), 2);
        Due.is("to 3", x.reach(2, 0), -1);
        QuotedRiver ten = Due.told(HEAD + "reach to 9 takes 1 low 0;".repeat(10));
        Due.is("0 to 9", ten.reach(0, 0), 9);
        Due.is("9 to itself", ten.reach(9, 0), 9);
        QuotedRiver nine = Due.told(HEAD + "reach to 9 takes 1 low 0;".repeat(9));
        Due.is("0 to 9 of nine", nine.reach(0, 0), -1);
        Due.is("8 to 9 of nine", nine.reach(8, 0), -1);
        Due.is("0 to itself", Due.told(HEAD + "reach to 0 takes 1 low 0;").reach(0, 0), 0);
    }

    private static void toldAhead() {
        Sentences.term("I", "join: from a REACH told ahead to another one told ahead (also to itself),");
        reads(HEAD + REACH + REACH + "join 0 to 1 each 2 at 1;join 1 to 0 each 2 at 1;", 5);
        reads(HEAD + REACH + "join 0 to 0 each 2 at 1;", 3);
        QuotedRiver itself = Due.told(HEAD + REACH + REACH + "join 1 to 1 each 2 at 1;");
        Due.is("from", itself.join(0, 0), 1);
        Due.is("to itself", itself.join(0, 1), 1);
        fails(HEAD + REACH + "join 1 to 0 each 2 at 1;" + REACH, 2, 60);
        fails(HEAD + REACH + "join 0 to 1 each 2 at 1;" + REACH, 2, 65);
        fails(HEAD + "join 0 to 0 each 2 at 1;" + REACH, 2, 35);
        String ten = HEAD + REACH.repeat(10);
        reads(ten + "join 9 to 9 each 2 at 1;", 12);
        fails(ten + "join 10 to 9 each 2 at 1;", 2, 285);
        fails(ten + "join 9 to 10 each 2 at 1;", 2, 290);
    }

    private static void boundsOfJoin() {
        Sentences.term("I", "each 1 .. 9,");
        String ahead = HEAD + REACH + "join 0 to 0 ";
        Due.is("each 1", Due.told(ahead + "each 1 at 0;").join(0, 2), 1);
        Due.is("each 9", Due.told(ahead + "each 9 at 0;").join(0, 2), 9);
        fails(ahead + "each 0 at 0;", 2, 72);
        fails(ahead + "each 10 at 0;", 2, 72);
        Sentences.term("I", "at 0 .. each less 1.");
        Due.is("at 0 of 1", Due.told(ahead + "each 1 at 0;").count(4), 1);
        Due.is("at 8 of 9", Due.told(ahead + "each 9 at 8;").join(0, 3), 8);
        Due.is("at 1 of 2", Due.told(ahead + "each 2 at 1;").join(0, 3), 1);
        fails(ahead + "each 1 at 1;", 2, 77);
        fails(ahead + "each 2 at 2;", 2, 77);
        fails(ahead + "each 9 at 9;", 2, 77);
    }

    private static void boundsOfRain() {
        Sentences.term("I", "rain: 1 .. 30,");
        Due.is("rain 1", Due.told(HEAD + "rain 1 at 3;").rain(0, 0), 1);
        Due.is("rain 30", Due.told(HEAD + "rain 30 at 3;").rain(0, 0), 30);
        fails(HEAD + "rain 0 at 3;", 2, 35);
        fails(HEAD + "rain 31 at 3;", 2, 35);
        Sentences.term("I", "at STEP 0 .. 60.");
        reads(HEAD + "rain 4 at 0;", 2);
        Due.is("at 0", Due.told(HEAD + "rain 4 at 0;").rain(0, 1), 0);
        Due.is("at 60", Due.told(HEAD + "rain 4 at 60;").rain(0, 1), 60);
        fails(HEAD + "rain 4 at 61;", 2, 40);
    }

    private static void steps() {
        Sentences.term("I", "STEPS 0 .. 60.");
        QuotedRiver x = Due.told(HEAD + REACH);
        Due.is("0", x.level(0), 5);
        Due.is("60", x.level(60), 0);
        Due.is("61", x.level(61), -2);
        Due.is("-1", x.level(-1), -2);
        Due.is("sea of 60", x.sea(0, 60), -1);
        Due.is("sea of 61", x.sea(0, 61), -2);
    }

    private static void numbered() {
        Sentences.term("I", "REACHES 0 .. 9, JOINS 0 .. 4, RAINS 0 .. 4 are numbered as they stand.");
        StringBuilder text = new StringBuilder(HEAD);
        for (int i = 0; i < 10; i++) {
            text.append(Samples.reach(Samples.SEA, 1, i + 3));
            if (i % 2 == 1) {
                text.append(Samples.rain(11 + i / 2, 3)).append(Samples.join(i, 0, i / 2 + 2, 0));
            }
        }
        QuotedRiver x = Due.told(text.toString());
        for (int i = 0; i < 10; i++) {
            Due.is("low " + i, x.reach(i, 2), i + 3);
        }
        for (int i = 0; i < 5; i++) {
            Due.is("rain " + i, x.rain(i, 0), 11 + i);
            Due.is("from " + i, x.join(i, 0), 2 * i + 1);
            Due.is("each " + i, x.join(i, 2), i + 2);
        }
        Due.is("reach 10", x.reach(10, 2), -2);
        Due.is("join 5", x.join(5, 0), -2);
        Due.is("rain 5", x.rain(5, 0), -2);
        Due.is("REACHES", x.count(3), 10);
        Due.is("JOINS", x.count(4), 5);
        Due.is("RAINS", x.count(5), 5);
    }

    private static void tokens() {
        Sentences.term("I", "TOKENS, blanks (32, 10) aside, the longest: words (a .. z), numbers (digits), the sign ; .");
        // Blanks only where two words or two numbers would be one.
        reads("rivers level5odds2swell3;rain4at3;", 2);
        reads("\n  rivers\n\nlevel \n 5 odds 2 swell 3 \n ;\n rain 4 at 3 ; \n", 2);
        fails("riverslevel 5 odds 2 swell 3;", 1, 0);
        fails("rivers level 5 odds 2 swell 3 1;", 1, 30);
        fails("ri vers level 5 odds 2 swell 3;", 1, 0);
        fails("rivers lev el 5 odds 2 swell 3;", 1, 7);
        Due.is("the longest", Due.told("rivers level 12 odds 2 swell 3;").count(0), 12);
        fails("rivers level 1 2 odds 2 swell 3;", 1, 15);
        Due.is("ahead of it 0", Due.told("rivers level 000000000000000000012 odds 2 swell 3;").count(0), 12);
        // Each byte between two TOKENS: two are blanks, of letters the word becomes longer, a number can't stand there.
        for (int sign = 0; sign < 256; sign++) {
            String text = "rivers" + (char) sign + "level 5 odds 2 swell 3;";
            if (sign == 32 || sign == 10) {
                reads(text, 1);
            } else {
                fails(text, 1, sign >= 'a' && sign <= 'z' ? 0 : 6);
            }
        }
        // The digits are 0 .. 9, and the letters a .. z, each of them.
        for (int digit = 0; digit < 10; digit++) {
            Due.is("digit " + digit, Due.told("rivers level " + digit + " odds 2 swell 3;").count(0), digit);
        }
        fails("rivers level a odds 2 swell 3;", 1, 13);
        fails("rivers level z odds 2 swell 3;", 1, 13);
    }

    private static void placeOfFault() {
        Sentences.term("I", "(a TOKEN's first byte; the end's)");
        fails("rivers   levels 5 odds 2 swell 3;", 1, 9);
        fails("rivers level 5 odds 2 swell\n\n\n 111;", 2, 31);
        fails("rivers", 1, 6);
        fails("rivers ", 1, 7);
        fails("rivers \n \n", 1, 10);
        fails(HEAD + "rain 4 at 3 ", 1, 42);
    }

    private static void firstFault() {
        Sentences.term("I", "FAULTS, the first by its place");
        fails("rivers level 61 odds 2 swell 3 !", 2, 13);
        fails("rivers level 61 odds 11 swell 10;", 2, 13);
        fails("rivers level 60 odds 11 swell 10;", 2, 21);
        fails("rivers level ! odds 11 swell 10;", 1, 13);
        fails(HEAD + "rain 0 at 61", 2, 35);
        fails(HEAD + REACH.repeat(10) + REACH + "rain 0", 3, 280);
        fails(HEAD + "rain 31 at 3;" + REACH.repeat(11), 2, 35);
    }

    private static void leastFault() {
        Sentences.term("I", ", of one place the least:");
        // A number that is out of all bounds, where none can stand; an 11th reach, 6th join, 6th rain, too.
        fails("rivers 99 level 5 odds 2 swell 3;", 1, 7);
        fails(HEAD + "99", 1, 30);
        String ten = HEAD + REACH.repeat(10);
        fails(ten.substring(0, ten.length() - 1) + " reach", 1, 280);
        String five = HEAD + REACH + JOIN.repeat(5);
        fails(five.substring(0, five.length() - 1) + " join", 1, 175);
        String rains = HEAD + RAIN.repeat(5);
        fails(rains.substring(0, rains.length() - 1) + " rain", 1, 90);
    }

    private static void faultOfToken() {
        Sentences.term("I", "1 a TOKEN that is none, or can't stand there (rivers behind the first LINE, another word "
                + "ahead of it).");
        fails(HEAD + ",", 1, 30);
        fails(HEAD + "rain 4 at -3;", 1, 40);
        fails(HEAD + (char) 0, 1, 30);
        fails(HEAD + (char) 255, 1, 30);
        fails(HEAD + "Rain 4 at 3;", 1, 30);
        fails(HEAD + "rivers", 1, 30);
        fails(HEAD + RAIN + "rivers level 5 odds 2 swell 3;", 1, 42);
        for (String word : new String[] {"level", "reach", "join", "rain", "sea", "river", "riverss", "x", "5", ";"}) {
            fails(word + " " + HEAD, 1, 0);
        }
        fails(HEAD + "sea", 1, 30);
        fails(HEAD + "level 5", 1, 30);
        fails(HEAD + REACH + "join 0 to sea each 2 at 1;", 1, 65);
        fails(HEAD + REACH + "join sea to 0 each 2 at 1;", 1, 60);
    }

    private static void faultOfNumber() {
        Sentences.term("I", "2 a number out of its bounds.");
        fails("rivers level 61 odds 2 swell 3;", 2, 13);
        // However long: 2 to the power of 32, of 64, and 5 more than each.
        fails("rivers level 4294967296 odds 2 swell 3;", 2, 13);
        fails("rivers level 4294967301 odds 2 swell 3;", 2, 13);
        fails("rivers level 18446744073709551616 odds 2 swell 3;", 2, 13);
        fails("rivers level 18446744073709551621 odds 2 swell 3;", 2, 13);
        fails("rivers level " + "9".repeat(600) + " odds 2 swell 3;", 2, 13);
        Due.is("many a 0", Due.told("rivers level " + "0".repeat(600) + "60 odds 2 swell 3;").count(0), 60);
    }

    private static void faultOfMany() {
        Sentences.term("I", "3 an 11th reach, 6th join, 6th rain, at its word.");
        String ten = HEAD + REACH.repeat(10);
        reads(ten, 11);
        fails(ten + REACH, 3, 280);
        fails(ten + "  reach", 3, 282);
        fails(ten + "reach to 10 takes 9", 3, 280);
        String five = HEAD + REACH + JOIN.repeat(5);
        reads(five, 7);
        fails(five + JOIN, 3, 175);
        fails(five + "join 1", 3, 175);
        String rains = HEAD + RAIN.repeat(5);
        reads(rains, 6);
        fails(rains + RAIN, 3, 90);
        fails(rains + "rain;", 3, 90);
        // As many of each as there may be, side by side.
        reads(ten + JOIN.repeat(5) + RAIN.repeat(5), 21);
        fails(rains + REACH + RAIN, 3, 115);
    }

    private static void slots() {
        Sentences.term("I", "SLOTS 0 .. 3 have rows of numbers of 1, 2, 4 or 8 bytes (WIDTH 0 .. 3), at most 60, "
                + "or nothing.");
        QuotedRiver x = Due.told(HEAD + REACH);
        for (int slot = 0; slot < 4; slot++) {
            Due.is("nothing yet " + slot, x.fits(slot), -6);
            Due.is("row " + slot, x.row(slot, slot, 60), 0);
            Due.is("the last " + slot, x.write(slot, 59, 0), 0);
        }
        Due.is("SLOTS", x.count(9), 4);
        Due.is("SLOT 4", x.row(4, 0, 1), -2);
        Due.is("SLOT -1", x.row(-1, 0, 1), -2);
        Due.is("WIDTH 4", x.row(0, 4, 1), -2);
        Due.is("WIDTH -1", x.row(0, -1, 1), -2);
        Due.is("61", x.row(0, 0, 61), -2);
        // Of 8, 16, 32 and 64 bits: one bit above the highest is cut away, the highest is not.
        for (int width = 0; width < 4; width++) {
            int bits = 8 << width;
            Due.row(x, width, width, bits == 64 ? 0 : 1L << bits, 0);
            Due.is("cut " + width, x.fits(width), 1);
            Due.row(x, width, width, 1L << bits - 1, 0);
            Due.is("not cut " + width, x.fits(width), -2);
        }
    }

    private static void refusedFirst() {
        Sentences.term("I", "-2 is asked ahead of -5, -6.");
        QuotedRiver none = new QuotedRiver();
        Due.is("undo of no RIVERS and no act", none.undo(), -2);
        Due.is("fits of no RIVERS and nothing", none.fits(0), -2);
        QuotedRiver x = Due.told(HEAD + REACH + JOIN);
        Due.is("turn of nothing and no JOIN", x.turn(0, 1, 0), -2);
        Due.is("turn of nothing and no REACH", x.turned(0, 0, 1), -2);
        Due.is("write of no SLOT", x.write(4, 0, 0), -2);
        Due.is("paste of nothing to no SLOT", x.paste(0, 0, 4, 0, 0), -2);
        Due.is("paste of no SLOT to nothing", x.paste(4, 0, 0, 0, 0), -2);
        Due.is("back of no IMAGE", x.back(3), -2);
        for (int i = 0; i < 30; i++) {
            Due.is("pours", x.pours(0, 1), 6 + i);
        }
        Due.is("close, 30 acts", x.close(0, 1), -5);
        Due.is("close of no JOIN, 30 acts", x.close(1, 1), -2);
        Due.is("close of no on, 30 acts", x.close(0, 2), -2);
        Due.is("pours of no STEP, 30 acts", x.pours(61, 1), -2);
        Due.is("pours of no n, 30 acts", x.pours(0, 31), -2);
        Due.is("deepen, 30 acts", x.deepen(0, 1), -5);
        Due.is("deepen of no REACH, 30 acts", x.deepen(1, 1), -2);
        Due.is("deepen of no n, 30 acts", x.deepen(0, 21), -2);
    }

    // Promises 1 to 8.

    private static void newObject() {
        Sentences.promise(1, "No RIVERS.");
        QuotedRiver x = new QuotedRiver();
        for (int what = 0; what <= 9; what++) {
            Due.is("count " + what, x.count(what), 0);
        }
        Due.is("mouths", x.mouths(), -2);
        Due.is("level", x.level(0), -2);
        Due.is("lowest", x.lowest(), -2);
        Due.is("reach", x.reach(0, 0), -2);
        Due.is("join", x.join(0, 0), -2);
        Due.is("rain", x.rain(0, 0), -2);
        Due.is("sea", x.sea(0, 0), -2);
        Due.is("chance", x.chance(0, 0, 0), -2);
        Due.is("anew", x.anew(), -2);
        Due.is("fits", x.fits(0), -2);
        for (int k = 0; k < 3; k++) {
            Due.is("IMAGE " + k, x.back(k), -6);
        }
        Due.is("the SLUICES ask for none", x.rests(), 3);
    }

    private static void feed() {
        Sentences.promise(2, "Twenty bytes come behind the TAPE, four of each number, the highest first: how many it has;");
        QuotedRiver x = new QuotedRiver();
        Due.is("twenty", x.feed(0x72697665, 0x7273206c, 0x6576656c, 0x2035206f, 0x64647320), 20);
        Due.is("forty", x.feed(0x36207377, 0x656c6c20, 0x373b2020, 0x20202020, 0x20202020), 40);
        Due.is("TAPE", x.count(8), 40);
        Due.is("rivers", x.rivers(), 1);
        Due.is("level", x.count(0), 5);
        Due.is("odds", x.count(1), 6);
        Due.is("swell", x.count(2), 7);
        // Each of twenty bytes is what it is: all but one blanks, and that one (also one above 127) is a FAULT.
        for (int i = 0; i < 20; i++) {
            int[] five = {0x20202020, 0x20202020, 0x20202020, 0x20202020, 0x20202020};
            five[i / 4] |= 0x81 << 24 - 8 * (i % 4);
            Due.is("feed", x.feed(five[0], five[1], five[2], five[3], five[4]), 20);
            Due.is("rivers", x.rivers(), -4);
            Due.is("its place", x.fault(1), i);
        }
    }

    private static void feedOver() {
        Sentences.promise(2, "NONE, and none come, if it would have more than 700.");
        QuotedRiver x = new QuotedRiver();
        for (int i = 1; i <= 35; i++) {
            Due.is("feed", x.feed(0x20202020, 0x20202020, 0x20202020, 0x20202020, 0x20202020), 20 * i);
        }
        Due.is("feed to 720", x.feed(0, 0, 0, 0, 0), -1);
        Due.is("TAPE", x.count(8), 700);
        Due.is("end", x.end(681), 681);
        Due.is("feed to 701", x.feed(0, 0, 0, 0, 0), -1);
        Due.is("TAPE", x.count(8), 681);
        Due.is("rivers", x.rivers(), 0);
        for (int i = 1; i <= 34; i++) {
            x.feed(0x20202020, 0x20202020, 0x20202020, 0x20202020, 0x20202020);
        }
        Due.is("feed to 700", x.feed(0x20202020, 0x20202020, 0x20202020, 0x20202020, 0x2020203b), 700);
        Due.is("rivers", x.rivers(), -4);
        Due.is("the last byte", x.fault(1), 699);
    }

    private static void end() {
        Sentences.promise(3, "The TAPE has its first n bytes alone: n;");
        QuotedRiver x = new QuotedRiver();
        Due.tape(x, HEAD + RAIN);
        Due.is("all", x.end(42), 42);
        Due.is("end", x.end(30), 30);
        Due.is("TAPE", x.count(8), 30);
        Due.is("rivers", x.rivers(), 1);
        Due.is("RAINS", x.count(5), 0);
        Due.tape(x, HEAD + RAIN);
        Due.is("end 0", x.end(0), 0);
        Due.is("TAPE", x.count(8), 0);
        Due.is("end 0 again", x.end(0), 0);
        Due.is("rivers", x.rivers(), 0);
        // What was cut away is no part of the word or number that it was cut from.
        Due.tape(x, HEAD + "rain 4 at 61;");
        Due.is("end", x.end(41), 41);
        Due.is("rivers", x.rivers(), -4);
        Due.is("no number out of bounds", x.fault(0), 1);
        Due.is("the end", x.fault(1), 41);
        Due.tape(x, HEAD + "rains");
        Due.is("end", x.end(34), 34);
        Due.is("rivers", x.rivers(), -4);
        Due.is("no other word", x.fault(1), 34);
        // Nor is what stood there ahead of an earlier rivers(): forty bytes, and behind them a digit of before.
        String forty = "rivers level 5 odds 1 swell 1;rain 1 at6";
        Due.is("rivers", Due.tell(x, forty + "1;"), -4);
        Due.is("61", x.fault(0), 2);
        Due.is("rivers", Due.tell(x, forty), -4);
        Due.is("6 and the end", x.fault(0), 1);
        Due.is("place", x.fault(1), 40);
        // What was cut away comes no more: what is fed stands in its place.
        Due.tape(x, HEAD + "rain 4 at !");
        Due.is("end", x.end(40), 40);
        Due.is("feed", x.feed(0x333b2020, 0x20202020, 0x20202020, 0x20202020, 0x20202020), 60);
        Due.is("rivers", x.rivers(), 2);
    }

    private static void endRefused() {
        Sentences.promise(3, "NONE, and nothing happens, if it has not so many, or n is below 0.");
        QuotedRiver x = new QuotedRiver();
        Due.is("1 of 0", x.end(1), -1);
        Due.tape(x, HEAD);
        for (int n : new int[] {31, 700, 701, Integer.MAX_VALUE, -1, Integer.MIN_VALUE}) {
            Due.is("end " + n, x.end(n), -1);
            Due.is("TAPE", x.count(8), 30);
        }
        Due.is("rivers", x.rivers(), 1);
    }

    private static void rivers() {
        Sentences.promise(4, "The TAPE (empty then) is the RIVERS");
        QuotedRiver x = new QuotedRiver();
        Due.is("rivers", Due.tell(x, HEAD + REACH), 2);
        Due.is("TAPE", x.count(8), 0);
        Due.is("end", x.end(1), -1);
        Due.is("feed", x.feed(0, 0, 0, 0, 0), 20);
    }

    private static void riversInPlace() {
        Sentences.promise(4, "(in place of others), nothing done:");
        // All that is of the ones ahead is more than what is told behind: as on a new object, nothing of it stays.
        String joins = Samples.join(0, 0, 1, 0) + Samples.join(1, 2, 1, 0) + Samples.join(1, 0, 1, 0).repeat(3);
        String rains = Samples.rain(30, 0).repeat(2) + Samples.rain(30, 2).repeat(3);
        inPlaceOf(Samples.rivers(1, 10, 9) + Samples.reach(9, 5, 20).repeat(8)
                + Samples.reach(Samples.SEA, 1, 20).repeat(2) + joins + rains);
        inPlaceOf(Samples.rivers(1, 10, 9) + Samples.reach(Samples.SEA, 5, 20).repeat(3) + joins + rains);
        inPlaceOf(Samples.rivers(1, 10, 9) + Samples.reach(0, 5, 20).repeat(3) + Samples.join(0, 0, 1, 0).repeat(5) + rains);
    }

    private static void inPlaceOf(String others) {
        String text = Samples.rivers(40, 0, 1) + Samples.reach(1, 1, 1) + Samples.reach(Samples.SEA, 2, 3);
        QuotedRiver x = Due.told(others);
        x.busy(0);
        x.busy(6);
        x.pours(3, 30);
        x.close(0, 1);
        Due.is("rivers", Due.tell(x, text), 3);
        int[] due = {40, 0, 1, 2, 0, 0, 0, 3, 0, 0};
        for (int what = 0; what <= 9; what++) {
            Due.is("count " + what, x.count(what), due[what]);
        }
        Due.is("undo", x.undo(), -5);
        for (int step = 0; step <= 60; step++) {
            Due.is("level " + step, x.level(step), 40 - Math.min(40, step));
            Due.is("stands " + step, x.stands(step), step >= 40 ? 3 : step >= 38 ? 2 : 0);
        }
        Due.is("mouths", x.mouths(), 2);
        Due.is("springs", x.springs(), 1);
        Due.is("rings", x.rings(), 0);
        Due.is("reach 2", x.reach(2, 0), -2);
        Due.is("join", x.join(0, 0), -2);
        Due.is("rain", x.rain(0, 0), -2);
        Due.is("sea", x.sea(0, 0), 3);
        Due.is("jumps", x.jumps(0, 0), 0);
        Due.is("rained", x.rained(60), 0);
        Due.is("from", x.from(1, 1), 3);
        Due.is("ends", x.ends(0), 3);
        Due.is("busy", x.busy(1), 1);
        Due.is("busy", x.busy(3), -1);
        Due.is("chance", x.chance(14, 26, 0), 1);
        Due.is("chance", x.chance(14, 27, 0), 0);
    }

    private static void riversOfNone() {
        Sentences.promise(4, "how many LINES (0: there are none then).");
        reads(HEAD, 1);
        reads(HEAD + REACH.repeat(10) + JOIN.repeat(5) + RAIN.repeat(5), 21);
        QuotedRiver x = Due.told(HEAD + REACH + JOIN + RAIN);
        x.close(0, 1);
        Due.is("rivers of nothing", x.rivers(), 0);
        for (int what = 0; what <= 9; what++) {
            Due.is("count " + what, x.count(what), 0);
        }
        Due.is("level", x.level(0), -2);
        Due.is("reach", x.reach(0, 0), -2);
        Due.is("undo", x.undo(), -2);
        Due.is("rivers", Due.tell(x, HEAD + REACH), 2);
        Due.is("rivers of blanks", Due.tell(x, " \n "), 0);
        Due.is("level", x.level(0), -2);
    }

    private static void riversOfFault() {
        Sentences.promise(4, "-4: a FAULT (the TAPE is empty, all else stays).");
        QuotedRiver x = Due.told(Samples.FOUR);
        Due.is("deepen", x.deepen(3, 7), 2);
        Due.is("image", x.image(1), 0);
        Due.row(x, 2, 0, 2, 2);
        Due.is("close", x.close(0, 1), 0);
        Due.is("pours", x.pours(1, 9), 15);
        // Good LINES ahead of the FAULT, more of each than there are, and a LINE of rivers of other numbers.
        Due.is("rivers", Due.tell(x, "rivers level 9 odds 9 swell 9;" + REACH.repeat(9) + JOIN.repeat(5) + RAIN.repeat(5)
                + "!"), -4);
        Due.is("TAPE", x.count(8), 0);
        int[] stays = {5, 2, 3, 4, 2, 2, 2, 9, 0, 1};
        for (int what = 0; what <= 9; what++) {
            Due.is("count " + what, x.count(what), stays[what]);
        }
        Due.is("level", x.level(1), 15);
        Due.is("low", x.reach(3, 2), 7);
        Due.is("takes", x.reach(0, 1), 2);
        Due.is("flows", x.reach(0, 0), 1);
        Due.is("JOIN is shut", x.goes(0, 1), 0);
        Due.is("JOIN to", x.join(0, 1), 2);
        Due.is("RAIN", x.rain(0, 0), 4);
        Due.is("undo", x.undo(), 1);
        Due.is("level", x.level(1), 6);
        Due.is("SLOT", x.fits(2), 2);
        Due.is("IMAGE", x.back(1), 0);
        Due.is("acts", x.count(6), 0);
        // Without RIVERS there are none behind it, too.
        fails(HEAD + "!", 1, 30);
    }

    private static void fault() {
        Sentences.promise(5, "Of the latest rivers(), what 0: its FAULT, 0 without, 1: its place (NONE without).");
        QuotedRiver x = new QuotedRiver();
        Due.is("rivers", Due.tell(x, HEAD + "rain 31"), -4);
        Due.is("fault", x.fault(0), 2);
        Due.is("place", x.fault(1), 35);
        // No other call changes it, and one without takes it away.
        Due.is("feed", x.feed(0, 0, 0, 0, 0), 20);
        Due.is("end", x.end(0), 0);
        Due.is("image", x.image(0), 0);
        Due.is("back", x.back(0), 0);
        Due.is("fault", x.fault(0), 2);
        Due.is("place", x.fault(1), 35);
        Due.is("rivers", Due.tell(x, "!"), -4);
        Due.is("fault", x.fault(0), 1);
        Due.is("place", x.fault(1), 0);
        Due.is("rivers", Due.tell(x, HEAD + REACH.repeat(11)), -4);
        Due.is("fault", x.fault(0), 3);
        Due.is("place", x.fault(1), 280);
        Due.is("rivers", Due.tell(x, HEAD), 1);
        Due.is("fault", x.fault(0), 0);
        Due.is("place", x.fault(1), -1);
        Due.is("rivers", Due.tell(x, "!"), -4);
        Due.is("rivers of nothing", x.rivers(), 0);
        Due.is("fault", x.fault(0), 0);
        Due.is("place", x.fault(1), -1);
    }

    private static void noFault() {
        Sentences.promise(5, "NONE for another what, and ahead of any (what 1).");
        QuotedRiver x = new QuotedRiver();
        Due.is("place ahead of any", x.fault(1), -1);
        Due.is("fault ahead of any", x.fault(0), 0);
        for (String text : new String[] {"", HEAD, "!"}) {
            for (int what : new int[] {-1, 2, Integer.MAX_VALUE, Integer.MIN_VALUE}) {
                Due.is("fault " + what, x.fault(what), -1);
            }
            Due.tell(x, text);
        }
        Due.is("fault 2", x.fault(2), -1);
        Due.is("fault -1", x.fault(-1), -1);
    }

    private static void reach() {
        Sentences.promise(6, "Of a REACH, what 0: the one into which it flows (NONE: the sea), 1: takes, 2: low.");
        QuotedRiver x = Due.told(Samples.FOUR);
        int[][] due = {{1, 2, 3}, {2, 1, 0}, {-1, 1, 4}, {3, 3, 2}};
        for (int reach = 0; reach < 4; reach++) {
            for (int what = 0; what <= 2; what++) {
                Due.is("reach " + reach + " " + what, x.reach(reach, what), due[reach][what]);
            }
        }
        Sentences.promise(6, "-2: there are none such.");
        for (int none : new int[] {-1, 4, 9, 10, Integer.MAX_VALUE, Integer.MIN_VALUE}) {
            Due.is("reach " + none, x.reach(none, 0), -2);
        }
        for (int none : new int[] {-1, 3, Integer.MAX_VALUE, Integer.MIN_VALUE}) {
            Due.is("what " + none, x.reach(0, none), -2);
        }
        Due.is("without REACHES", Due.told(HEAD).reach(0, 0), -2);
        Due.is("without RIVERS", new QuotedRiver().reach(0, 0), -2);
    }

    private static void join() {
        Sentences.promise(7, "Of a JOIN, what 0: from, 1: to, 2: each, 3: at.");
        QuotedRiver x = Due.told(Samples.FOUR);
        int[][] due = {{0, 2, 3, 1}, {1, 0, 2, 0}};
        for (int join = 0; join < 2; join++) {
            for (int what = 0; what <= 3; what++) {
                Due.is("join " + join + " " + what, x.join(join, what), due[join][what]);
            }
        }
        Due.is("close", x.close(0, 1), 0);
        Due.is("one that is shut", x.join(0, 2), 3);
        Sentences.promise(7, "-2: there are none such.");
        for (int none : new int[] {-1, 2, 4, 5, Integer.MAX_VALUE, Integer.MIN_VALUE}) {
            Due.is("join " + none, x.join(none, 0), -2);
        }
        for (int none : new int[] {-1, 4, Integer.MAX_VALUE, Integer.MIN_VALUE}) {
            Due.is("what " + none, x.join(0, none), -2);
        }
        Due.is("without JOINS", Due.told(HEAD + REACH).join(0, 0), -2);
        Due.is("without RIVERS", new QuotedRiver().join(0, 0), -2);
    }

    private static void rain() {
        Sentences.promise(8, "Of a RAIN as told, what 0: how much, 1: its STEP.");
        QuotedRiver x = Due.told(Samples.FOUR);
        int[][] due = {{4, 3}, {2, 0}};
        Due.is("pours", x.pours(3, 5), 13);
        for (int rain = 0; rain < 2; rain++) {
            for (int what = 0; what <= 1; what++) {
                Due.is("rain " + rain + " " + what, x.rain(rain, what), due[rain][what]);
            }
        }
        Sentences.promise(8, "-2: there are none such.");
        for (int none : new int[] {-1, 2, 4, 5, Integer.MAX_VALUE, Integer.MIN_VALUE}) {
            Due.is("rain " + none, x.rain(none, 0), -2);
        }
        for (int none : new int[] {-1, 2, Integer.MAX_VALUE, Integer.MIN_VALUE}) {
            Due.is("what " + none, x.rain(0, none), -2);
        }
        Due.is("without RAINS", Due.told(HEAD).rain(0, 0), -2);
        Due.is("without RIVERS", new QuotedRiver().rain(0, 0), -2);
    }
}
