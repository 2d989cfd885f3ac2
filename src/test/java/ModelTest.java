import java.util.Random;

/** Long runs of calls on the class and on Model.java, beside each other. */
public final class ModelTest {
    private static final String[] WORDS = {"rivers", "level", "odds", "swell", "reach", "to", "sea", "takes", "low",
        "join", "each", "at", "rain", ";", "0", "1", "5", "9", "10", "60", "61", "99999999999", "x", "reachto", "Low",
        "-", "\t", "\0", "", " ", "\n", ";;"};

    private final Random random;
    private QuotedRiver x = new QuotedRiver();
    private Model m = new Model();
    private int reaches = 1;
    private int joins = 1;

    private ModelTest(long seed) {
        random = new Random(seed);
    }

    public static void main(String[] args) {
        for (int run = 0; run < 500; run++) {
            new ModelTest(run).calls(run);
        }
        Due.end();
    }

    /** At most 512 calls to an object are promised. */
    private void calls(int run) {
        tell(text());
        for (int i = 0; i < 110; i++) {
            int which = random.nextInt(100);
            if (which == 0) {
                tell(random.nextInt(3) == 0 ? "" : text());
            } else if (which < 3) {
                tell(spoilt(text()));
            } else if (which < 8) {
                doAct();
            } else if (which < 12) {
                useImage();
            } else if (which < 18) {
                useSlot();
            } else if (which < 30) {
                askSeen();
            } else if (which < 36) {
                askChance();
            } else if (which < 50) {
                askLevels();
            } else if (which < 70) {
                askStick();
            } else if (which < 85) {
                askSticks();
            } else {
                askAnyStep();
            }
        }
    }

    // Arguments: mostly such as there are.

    private int any(int most) {
        int n = random.nextInt(40);
        return n == 0 ? -1 : n == 1 ? most + 1 : n == 2 ? most : n == 3 ? 0 : random.nextInt(most + 1);
    }

    private int reach() {
        return random.nextInt(30) == 0 ? any(9) : any(Math.max(0, reaches - 1));
    }

    private int join() {
        return any(Math.max(0, joins - 1));
    }

    private int step() {
        return random.nextInt(3) == 0 ? any(60) : any(25);
    }

    // Texts.

    private String text() {
        StringBuilder s = new StringBuilder();
        s.append("rivers level ").append(random.nextInt(random.nextBoolean() ? 20 : 61)).append(" odds ")
                .append(random.nextInt(11)).append(" swell ").append(1 + random.nextInt(9)).append(";");
        reaches = random.nextInt(11);
        if (random.nextInt(4) != 0) {
            reaches = 2 + random.nextInt(5);
        }
        joins = 0;
        int most = random.nextInt(4) == 0 ? 20 : 8;
        for (int r = 0; r < reaches; r++) {
            s.append(random.nextBoolean() ? "\n" : "").append("reach to ");
            int to = random.nextInt(reaches + 1);
            s.append(to == reaches ? "sea" : random.nextInt(12) == 0 ? "9" : String.valueOf(to));
            s.append(" takes ").append(1 + random.nextInt(random.nextBoolean() ? 2 : 5)).append(" low ")
                    .append(random.nextInt(most + 1)).append(" ;");
            while (joins < 5 && random.nextInt(3) == 0) {
                int each = 1 + random.nextInt(random.nextBoolean() ? 3 : 9);
                s.append("join ").append(random.nextInt(r + 1)).append(" to ").append(random.nextInt(r + 1))
                        .append(" each ").append(each).append(" at ").append(random.nextInt(each)).append(";");
                joins++;
            }
        }
        for (int n = random.nextInt(6); n > 0; n--) {
            s.append("rain ").append(1 + random.nextInt(30)).append(" at ").append(random.nextInt(61)).append(";");
        }
        return s.toString();
    }

    private String spoilt(String text) {
        String s = text;
        for (int n = random.nextInt(3); n >= 0; n--) {
            int at = random.nextInt(s.length() + 1);
            int stop = Math.min(s.length(), at + random.nextInt(4));
            int from = random.nextInt(s.length() + 1);
            switch (random.nextInt(4)) {
                case 0 -> s = s.substring(0, at) + WORDS[random.nextInt(WORDS.length)] + s.substring(at);
                case 1 -> s = s.substring(0, at) + s.substring(stop);
                case 2 -> s = s.substring(0, at) + s.substring(from, Math.min(s.length(), from + 40)) + s.substring(at);
                default -> s = s.substring(0, at) + (char) random.nextInt(256) + s.substring(stop);
            }
        }
        return s.substring(0, Math.min(s.length(), 690));
    }

    private void tell(String text) {
        int n = (text.length() + 19) / 20;
        for (int i = 0; i < n; i++) {
            int[] five = new int[5];
            for (int j = 0; j < 20; j++) {
                int place = 20 * i + j;
                five[j / 4] = five[j / 4] << 8 | (place < text.length() ? text.charAt(place) : 'x');
            }
            Due.is("feed", x.feed(five[0], five[1], five[2], five[3], five[4]), m.feed(five));
        }
        Due.is("end", x.end(text.length()), m.end(text.length()));
        Due.is("rivers of " + text, x.rivers(), m.rivers());
        Due.is("fault of " + text, x.fault(0), m.fault(0));
        Due.is("place of " + text, x.fault(1), m.fault(1));
    }

    // Calls on both.

    private void doAct() {
        int a = join();
        int b = any(1);
        int s = step();
        int n = any(30);
        int r = reach();
        int low = any(20);
        switch (random.nextInt(7)) {
            case 0, 1 -> Due.is("close " + a + " " + b, x.close(a, b), m.close(a, b));
            case 2, 3 -> Due.is("pours " + s + " " + n, x.pours(s, n), m.pours(s, n));
            case 4 -> Due.is("undo", x.undo(), m.undo());
            case 5 -> Due.is("anew", x.anew(), m.anew());
            default -> Due.is("deepen " + r + " " + low, x.deepen(r, low), m.deepen(r, low));
        }
    }

    private void useImage() {
        int k = any(2);
        if (random.nextBoolean()) {
            Due.is("image " + k, x.image(k), m.image(k));
        } else {
            Due.is("back " + k, x.back(k), m.back(k));
        }
        for (int what = 0; what < 8; what++) {
            Due.is("count " + what, x.count(what), m.count(what));
        }
        reaches = Math.max(1, x.count(3));
        joins = Math.max(1, x.count(4));
    }

    private void useSlot() {
        int slot = any(3);
        int to = any(3);
        int n = random.nextInt(10) == 0 ? any(60) : 2 * random.nextInt(3);
        int width = random.nextInt(3) == 0 ? any(3) : 0;
        switch (random.nextInt(4)) {
            case 0 -> {
                Due.is("row " + slot + " " + width + " " + n, x.row(slot, width, n), m.row(slot, width, n));
                seeStick(slot, n);
            }
            case 1 -> seeStick(slot, n);
            case 2 -> {
                int i = any(n + 1);
                long v = random.nextInt(5) == 0 ? random.nextLong() : any(60);
                Due.is("write " + slot + " " + i + " " + v, x.write(slot, i, v), m.write(slot, i, v));
            }
            default -> {
                int i = any(4);
                int k = any(4);
                int some = any(4);
                String call = "paste " + slot + " " + i + " " + to + " " + k + " " + some;
                Due.is(call, x.paste(slot, i, to, k, some), m.paste(slot, i, to, k, some));
            }
        }
    }

    /** Rows that tell the truth of some STICK. */
    private void seeStick(int slot, int n) {
        int r = random.nextInt(reaches + 1);
        int s = random.nextBoolean() ? 0 : random.nextInt(20);
        for (int i = 0; i + 1 < n; i += 2) {
            int then = s + random.nextInt(15);
            int there = Math.max(0, m.where(r, s, then));
            long high = random.nextInt(4) == 0 ? 256L << random.nextInt(50) : 0;
            Due.is("write", x.write(slot, i, then + high), m.write(slot, i, then + high));
            Due.is("write", x.write(slot, i + 1, there), m.write(slot, i + 1, there));
        }
    }

    private void askSeen() {
        int slot = any(3);
        int a = join();
        int r = reach();
        Due.is("fits " + slot, x.fits(slot), m.fits(slot));
        switch (random.nextInt(5)) {
            case 0 -> Due.is("sources " + slot, x.sources(slot), m.sources(slot));
            case 1 -> Due.is("source " + slot, x.source(slot), m.source(slot));
            case 2 -> Due.is("turned", x.turned(slot, a, r), m.turned(slot, a, r));
            case 3 -> Due.is("turn", x.turn(slot, a, r), m.turn(slot, a, r));
            default -> {
                Due.is("ask " + slot, x.ask(slot), m.ask(slot));
                Due.is("doubts " + slot, x.doubts(slot), m.doubts(slot));
            }
        }
    }

    private void askChance() {
        int s = any(14);
        int n = random.nextBoolean() ? any(99) : any(20);
        int what = any(1);
        int seed = random.nextBoolean() ? random.nextInt() : any(2000000000);
        int some = any(20);
        int p = any(100);
        int r = reach();
        switch (random.nextInt(6)) {
            case 0 -> Due.is("mean " + s, x.mean(s, what), m.mean(s, what));
            case 1, 2 -> Due.is("chance " + s + " " + n, x.chance(s, n, what), m.chance(s, n, what));
            case 3 -> Due.is("risk " + r + " " + p, x.risk(r, p), m.risk(r, p));
            case 4 -> Due.is("drawn " + seed, x.drawn(seed, what), m.drawn(seed, what));
            default -> Due.is("luck " + seed + " " + some, x.luck(seed, some, r), m.luck(seed, some, r));
        }
    }

    private void askLevels() {
        int s = step();
        int r = reach();
        int j = join();
        int a = any(4);
        int b = any(4);
        switch (random.nextInt(18)) {
            case 0 -> Due.is("level " + s, x.level(s), m.level(s));
            case 1 -> Due.is("stands " + s, x.stands(s), m.stands(s));
            case 2 -> Due.is("flows " + s, x.flows(s), m.flows(s));
            case 3 -> Due.is("dry " + r, x.dry(r), m.dry(r));
            case 4 -> Due.is("drought " + r, x.drought(r), m.drought(r));
            case 5 -> Due.is("idle " + r, x.idle(r), m.idle(r));
            case 6 -> Due.is("rained " + s, x.rained(s), m.rained(s));
            case 7 -> Due.is("lowest", x.lowest(), m.lowest());
            case 8 -> Due.is("deeper", x.deeper(), m.deeper());
            case 9 -> Due.is("mouths", x.mouths(), m.mouths());
            case 10 -> Due.is("springs", x.springs(), m.springs());
            case 11 -> Due.is("depth " + r, x.depth(r), m.depth(r));
            case 12 -> Due.is("rings", x.rings(), m.rings());
            case 13 -> Due.is("goes " + j + " " + s, x.goes(j, s), m.goes(j, s));
            case 14 -> Due.is("reach " + r + " " + a, x.reach(r, a), m.reach(r, a));
            case 15 -> Due.is("join " + j + " " + a, x.join(j, a), m.join(j, a));
            case 16 -> Due.is("rain " + b + " " + a, x.rain(b, a), m.rain(b, a));
            default -> {
                Due.is("count", x.count(a + b), m.count(a + b));
                Due.is("has", x.has(a, b), m.has(a, b));
                Due.is("answer", x.answer(a), m.answer(a));
                Due.is("rests", x.rests() * 100 + x.rest(), m.rests() * 100 + m.rest());
                Due.is("treaty", x.treaty(), m.treaty());
            }
        }
    }

    private void askStick() {
        int r = reach();
        int s = step();
        int then = s + random.nextInt(20);
        int other = reach();
        String of = " " + r + " " + s;
        Due.is("where" + of + " " + then, x.where(r, s, then), m.where(r, s, then));
        switch (random.nextInt(11)) {
            case 0 -> Due.is("sea" + of, x.sea(r, s), m.sea(r, s));
            case 1 -> Due.is("comes" + of + " " + other, x.comes(r, s, other), m.comes(r, s, other));
            case 2 -> Due.is("way" + of, x.way(r, s), m.way(r, s));
            case 3 -> Due.is("leaves" + of, x.leaves(r, s), m.leaves(r, s));
            case 4 -> Due.is("waits" + of, x.waits(r, s), m.waits(r, s));
            case 5 -> Due.is("jumps" + of, x.jumps(r, s), m.jumps(r, s));
            case 6 -> Due.is("finds" + of, x.finds(r, s), m.finds(r, s));
            case 7 -> Due.is("used" + of, x.used(r, s), m.used(r, s));
            case 8 -> Due.is("again" + of, x.again(r, s), m.again(r, s));
            case 9 -> Due.is("shut" + of, x.shut(r, s), m.shut(r, s));
            default -> Due.is("pour" + of + " " + then, x.pour(r, s, then), m.pour(r, s, then));
        }
    }

    private void askSticks() {
        int r = reach();
        int other = reach();
        int s = step();
        String of = " " + r + " " + other;
        switch (random.nextInt(6)) {
            case 0 -> Due.is("from " + r + " " + s, x.from(r, s), m.from(r, s));
            case 1 -> Due.is("ends " + s, x.ends(s), m.ends(s));
            case 2 -> Due.is("meet" + of, x.meet(r, other), m.meet(r, other));
            case 3 -> Due.is("alike" + of, x.alike(r, other), m.alike(r, other));
            case 4 -> Due.is("busy " + s, x.busy(s), m.busy(s));
            default -> Due.is("together " + r + " " + s, x.together(r, s), m.together(r, s));
        }
    }

    private void askAnyStep() {
        int r = reach();
        int other = reach();
        int s = step();
        String of = " " + r + " " + other;
        switch (random.nextInt(9)) {
            case 0 -> Due.is("can " + r, x.can(r), m.can(r));
            case 1 -> Due.is("slowly" + of, x.slowly(r, other), m.slowly(r, other));
            case 2 -> Due.is("soon" + of, x.soon(r, other), m.soon(r, other));
            case 3 -> Due.is("quick" + of, x.quick(r, other), m.quick(r, other));
            case 4 -> Due.is("quickly" + of, x.quickly(r, other), m.quickly(r, other));
            case 5 -> Due.is("late" + of + " " + s, x.late(r, other, s), m.late(r, other, s));
            case 6 -> Due.is("often" + of, x.often(r, other), m.often(r, other));
            case 7 -> Due.is("stop" + of, x.stop(r, other), m.stop(r, other));
            default -> Due.is("stops" + of, x.stops(r, other), m.stops(r, other));
        }
    }
}
