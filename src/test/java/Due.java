/** What the tests share: an answer that is due, and a text put on the TAPE. */
final class Due {
    private static int asked = 0;
    private static int wrong = 0;
    private static String about = "";

    private Due() {
    }

    static void is(String call, long got, long want) {
        asked++;
        if (got != want) {
            wrong++;
            if (wrong <= 30) {
                System.out.println(about + call + " answered " + got + ", due is " + want);
            }
        }
    }

    static int asked() {
        return asked;
    }

    /** What a wrong answer is told with from here on. */
    static void about(String what) {
        about = "[" + what + "] ";
    }

    /** A test without a question has failed, too. */
    static void end() {
        System.out.println(asked + " answers, " + wrong + " not as due");
        if (wrong != 0 || asked == 0) {
            System.exit(1);
        }
    }

    static QuotedRiver told(String text) {
        QuotedRiver x = new QuotedRiver();
        tell(x, text);
        return x;
    }

    /** Puts a text on the empty TAPE and reads it. */
    static int tell(QuotedRiver x, String text) {
        tape(x, text);
        return x.rivers();
    }

    static void tape(QuotedRiver x, String text) {
        int n = (text.length() + 19) / 20;
        for (int i = 0; i < n; i++) {
            x.feed(four(text, 20 * i), four(text, 20 * i + 4), four(text, 20 * i + 8), four(text, 20 * i + 12),
                    four(text, 20 * i + 16));
        }
        is("end(" + text.length() + ")", x.end(text.length()), text.length());
    }

    private static int four(String text, int at) {
        int all = 0;
        for (int i = at; i < at + 4; i++) {
            all = all << 8 | (i < text.length() ? text.charAt(i) : 0);
        }
        return all;
    }

    /** A row of a SLOT with these numbers. */
    static void row(QuotedRiver x, int slot, int width, long... numbers) {
        is("row", x.row(slot, width, numbers.length), 0);
        for (int i = 0; i < numbers.length; i++) {
            is("write", x.write(slot, i, numbers[i]), 0);
        }
    }
}
