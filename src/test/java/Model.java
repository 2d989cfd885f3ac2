import java.math.BigInteger;
import java.util.ArrayList;
import java.util.Arrays;
import java.util.HashSet;
import java.util.List;
import java.util.Map;
import java.util.Set;
import java.util.TreeMap;
import java.util.function.IntPredicate;
import java.util.function.IntUnaryOperator;
import java.util.regex.Matcher;
import java.util.regex.Pattern;

/**
 * The document's words once more, by other means than the class: STICKS by their visits, a text by patterns,
 * chances by whole numbers of any size. It asks neither for speed nor for the rules of LANGUAGE.md.
 */
final class Model {
    private static final int SEA = -1;
    private static final int OUT = -9;

    /** RIVERS and acts; lines 0 is none. */
    private static final class World {
        int lines;
        int level;
        int odds;
        int swell;
        List<int[]> reaches = new ArrayList<>();
        List<int[]> joins = new ArrayList<>();
        List<int[]> rains = new ArrayList<>();
        List<int[]> acts = new ArrayList<>();

        World copy() {
            World w = new World();
            w.lines = lines;
            w.level = level;
            w.odds = odds;
            w.swell = swell;
            reaches.forEach(r -> w.reaches.add(r.clone()));
            joins.forEach(j -> w.joins.add(j.clone()));
            rains.forEach(r -> w.rains.add(r.clone()));
            acts.forEach(a -> w.acts.add(a.clone()));
            return w;
        }
    }

    /** A STICK in a REACH from one STEP to the one at which it LEAVES (99: not by 60), by a JOIN or as told (-1). */
    private record Visit(int reach, int came, int left, int join) {
    }

    private record Slot(int width, long[] numbers) {
    }

    private World now = new World();
    private final World[] images = new World[3];
    private final Slot[] slots = new Slot[4];
    private final StringBuilder tape = new StringBuilder();
    private int fault = 0;
    private int place = -1;

    // The text.

    int feed(int... numbers) {
        if (tape.length() + 20 > 700) {
            return -1;
        }
        for (int n : numbers) {
            tape.append((char) (n >>> 24)).append((char) (n >> 16 & 255)).append((char) (n >> 8 & 255))
                    .append((char) (n & 255));
        }
        return tape.length();
    }

    int end(int n) {
        if (n < 0 || n > tape.length()) {
            return -1;
        }
        tape.setLength(n);
        return n;
    }

    int rivers() {
        String text = tape.toString();
        tape.setLength(0);
        World read = new World();
        fault = 0;
        place = -1;
        parse(text, read);
        if (fault != 0) {
            return -4;
        }
        for (int[] r : read.reaches) {
            r[0] = r[0] < read.reaches.size() ? r[0] : SEA;
        }
        now = read;
        return now.lines;
    }

    private void parse(String text, World w) {
        List<String> words = new ArrayList<>();
        List<Integer> places = new ArrayList<>();
        Matcher m = Pattern.compile("[a-z]+|[0-9]+|[^ \\n]", Pattern.DOTALL).matcher(text);
        while (m.find()) {
            words.add(m.group());
            places.add(m.start());
        }
        words.add("");
        places.add(text.length());
        int i = 0;
        while (i < words.size() - 1) {
            String shape = shapeOf(words.get(i), w);
            if (shape == null) {
                blame(1, places.get(i));
                return;
            }
            int there = shape.startsWith("reach") ? w.reaches.size() - 10
                    : shape.startsWith("join") ? w.joins.size() - 5 : shape.startsWith("rain") ? w.rains.size() - 5 : -1;
            if (there >= 0) {
                blame(3, places.get(i));
                return;
            }
            List<Integer> numbers = new ArrayList<>();
            for (String part : shape.split(" ")) {
                String word = words.get(i);
                boolean number = word.matches("[0-9]+");
                if (part.equals("R") && word.equals("sea")) {
                    numbers.add(99);
                } else if (part.contains("..") || part.equals("R")) {
                    if (!number) {
                        blame(1, places.get(i));
                        return;
                    }
                    String[] bounds = (part.equals("R") ? "0..9" : part).split("\\.\\.");
                    int most = bounds[1].equals("EACH") ? numbers.get(2) - 1 : Integer.parseInt(bounds[1]);
                    BigInteger value = new BigInteger(word);
                    if (value.compareTo(new BigInteger(bounds[0])) < 0 || value.compareTo(BigInteger.valueOf(most)) > 0) {
                        blame(2, places.get(i));
                        return;
                    }
                    numbers.add(value.intValue());
                } else if (!part.equals(word)) {
                    blame(1, places.get(i));
                    return;
                }
                i++;
            }
            keep(shape, numbers.stream().mapToInt(n -> n).toArray(), w);
        }
    }

    private static String shapeOf(String word, World w) {
        if (w.lines == 0) {
            return "rivers level 0..60 odds 0..10 swell 1..9 ;";
        }
        String told = "0.." + (w.reaches.size() - 1);
        return switch (word) {
            case "reach" -> "reach to R takes 1..5 low 0..20 ;";
            case "join" -> "join " + told + " to " + told + " each 1..9 at 0..EACH ;";
            case "rain" -> "rain 1..30 at 0..60 ;";
            default -> null;
        };
    }

    private static void keep(String shape, int[] n, World w) {
        w.lines++;
        switch (shape.substring(0, 3)) {
            case "riv" -> {
                w.level = n[0];
                w.odds = n[1];
                w.swell = n[2];
            }
            case "rea" -> w.reaches.add(n);
            case "joi" -> w.joins.add(n);
            default -> w.rains.add(n);
        }
    }

    private void blame(int what, int where) {
        fault = what;
        place = where;
    }

    int fault(int what) {
        return what == 0 ? fault : what == 1 ? place : -1;
    }

    int reach(int reach, int what) {
        return isReach(reach) && what >= 0 && what <= 2 ? now.reaches.get(reach)[what] : -2;
    }

    int join(int join, int what) {
        return isJoin(join) && what >= 0 && what <= 3 ? now.joins.get(join)[what] : -2;
    }

    int rain(int rain, int what) {
        return rain >= 0 && rain < now.rains.size() && what >= 0 && what <= 1 ? now.rains.get(rain)[what] : -2;
    }

    private boolean isReach(int r) {
        return r >= 0 && r < now.reaches.size();
    }

    private boolean isJoin(int j) {
        return j >= 0 && j < now.joins.size();
    }

    private boolean isStep(int s) {
        return now.lines > 0 && s >= 0 && s <= 60;
    }

    // LEVEL.

    private int rainOf(int step) {
        int sum = 0;
        for (int[] r : now.rains) {
            sum += r[1] == step ? r[0] : 0;
        }
        for (int[] a : now.acts) {
            sum += a[0] == 'p' && a[1] == step ? a[2] : 0;
        }
        return sum;
    }

    private int[] levels(IntUnaryOperator besides) {
        int[] all = new int[61];
        for (int s = 0; s <= 60; s++) {
            int ahead = s == 0 ? now.level : all[s - 1] > 0 ? all[s - 1] - 1 : 0;
            all[s] = ahead + rainOf(s) + besides.applyAsInt(s);
        }
        return all;
    }

    private int[] levels() {
        return levels(s -> 0);
    }

    private Set<Integer> shutNow() {
        Set<Integer> set = new HashSet<>();
        for (int[] a : now.acts) {
            if (a[0] == 'c' && a[2] == 1) {
                set.add(a[1]);
            } else if (a[0] == 'c') {
                set.remove(a[1]);
            }
        }
        return set;
    }

    private boolean standsAt(int reach, int step) {
        return levels()[step] < now.reaches.get(reach)[2];
    }

    private int reachesThat(IntPredicate which) {
        int set = 0;
        for (int r = 0; r < now.reaches.size(); r++) {
            set += which.test(r) ? 1 << r : 0;
        }
        return set;
    }

    int level(int step) {
        return isStep(step) ? levels()[step] : -2;
    }

    int stands(int step) {
        return isStep(step) ? reachesThat(r -> standsAt(r, step)) : -2;
    }

    int flows(int step) {
        return isStep(step) ? reachesThat(r -> !standsAt(r, step)) : -2;
    }

    /** A sign a STEP: S where it STANDS. */
    private String course(int reach) {
        StringBuilder all = new StringBuilder();
        for (int level : levels()) {
            all.append(level < now.reaches.get(reach)[2] ? 'S' : '.');
        }
        return all.toString();
    }

    int dry(int reach) {
        return isReach(reach) ? course(reach).indexOf('S') : -2;
    }

    int drought(int reach) {
        return isReach(reach) ? Arrays.stream(course(reach).split("\\.")).mapToInt(String::length).max().orElse(0) : -2;
    }

    int idle(int reach) {
        return isReach(reach) ? course(reach).replace(".", "").length() : -2;
    }

    int rained(int step) {
        int sum = 0;
        for (int s = 0; s <= step && s <= 60; s++) {
            sum += rainOf(s);
        }
        return isStep(step) ? sum : -2;
    }

    int lowest() {
        int least = Arrays.stream(levels()).min().getAsInt();
        int step = 0;
        while (levels()[step] != least) {
            step++;
        }
        return now.lines > 0 ? step : -2;
    }

    int deeper() {
        for (int low = 20; low >= 0 && now.lines > 0; low--) {
            int n = low;
            if (Arrays.stream(levels()).noneMatch(level -> level < n)) {
                return low;
            }
        }
        return -2;
    }

    // STICKS.

    private List<Visit> visits(int reach, int step, int[] levels, Set<Integer> shut, int stopped) {
        List<Visit> all = new ArrayList<>();
        int at = reach;
        int came = step;
        if ((stopped >> reach & 1) != 0) {
            return all;
        }
        while (at != SEA && came <= 60) {
            int[] r = now.reaches.get(at);
            int need = r[1];
            int left = came - 1;
            while (need > 0 && left < 60) {
                left++;
                need -= levels[left] >= r[2] ? 1 : 0;
            }
            if (need > 0) {
                all.add(new Visit(at, came, 99, -1));
                return all;
            }
            int join = -1;
            for (int j = now.joins.size() - 1; j >= 0; j--) {
                int[] told = now.joins.get(j);
                if (told[0] == at && !shut.contains(j) && left % told[2] == told[3]) {
                    join = j;
                }
            }
            all.add(new Visit(at, came, left, join));
            at = join >= 0 ? now.joins.get(join)[1] : r[0];
            came = left + 1;
            if (at != SEA && (stopped >> at & 1) != 0) {
                return all;
            }
        }
        if (came <= 60) {
            all.add(new Visit(SEA, came, 99, -1));
        }
        return all;
    }

    private List<Visit> visits(int reach, int step) {
        return visits(reach, step, levels(), shutNow(), 0);
    }

    private static int spot(List<Visit> visits, int step) {
        for (Visit v : visits) {
            if (v.came <= step && step <= v.left) {
                return v.reach;
            }
        }
        return OUT;
    }

    private static int firstIn(List<Visit> visits, int reach) {
        return visits.stream().filter(v -> v.reach == reach).mapToInt(Visit::came).findFirst().orElse(-1);
    }

    private boolean canPut(int reach, int step) {
        return isReach(reach) && isStep(step);
    }

    int where(int reach, int step, int then) {
        return canPut(reach, step) && isStep(then) && then >= step ? spot(visits(reach, step), then) : -2;
    }

    int sea(int reach, int step) {
        return canPut(reach, step) ? firstIn(visits(reach, step), SEA) : -2;
    }

    int comes(int reach, int step, int other) {
        return canPut(reach, step) && isReach(other) ? firstIn(visits(reach, step), other) : -2;
    }

    int way(int reach, int step) {
        return canPut(reach, step) ? reachesThat(r -> firstIn(visits(reach, step), r) >= 0) : -2;
    }

    int leaves(int reach, int step) {
        return canPut(reach, step) ? (int) visits(reach, step).stream().filter(v -> v.left <= 60).count() : -2;
    }

    int waits(int reach, int step) {
        if (!canPut(reach, step)) {
            return -2;
        }
        int n = 0;
        for (int s = step; s <= 60; s++) {
            int at = spot(visits(reach, step), s);
            n += at != SEA && standsAt(at, s) ? 1 : 0;
        }
        return n;
    }

    int jumps(int reach, int step) {
        return canPut(reach, step) ? (int) visits(reach, step).stream().filter(v -> v.join >= 0).count() : -2;
    }

    int used(int reach, int step) {
        return canPut(reach, step) ? visits(reach, step).stream().filter(v -> v.join >= 0).mapToInt(v -> 1 << v.join)
                .distinct().sum() : -2;
    }

    int finds(int reach, int step) {
        if (!canPut(reach, step)) {
            return -2;
        }
        List<Visit> all = visits(reach, step);
        int latest = reach;
        for (int r = 0; r < now.reaches.size(); r++) {
            latest = firstIn(all, r) > firstIn(all, latest) ? r : latest;
        }
        return latest;
    }

    int again(int reach, int step) {
        if (!canPut(reach, step)) {
            return -2;
        }
        Set<Integer> been = new HashSet<>();
        for (Visit v : visits(reach, step)) {
            if (v.reach != SEA && !been.add(v.reach)) {
                return v.came;
            }
        }
        return -1;
    }

    int from(int reach, int step) {
        return canPut(reach, step) ? reachesThat(r -> where(r, 0, step) == reach) : -2;
    }

    int ends(int step) {
        return isStep(step) ? reachesThat(r -> sea(r, step) >= 0) : -2;
    }

    int together(int reach, int step) {
        return canPut(reach, step) ? reachesThat(r -> where(r, step, 60) == where(reach, step, 60)) : -2;
    }

    private List<Integer> shared(int reach, int other) {
        List<Integer> steps = new ArrayList<>();
        for (int s = 0; s <= 60; s++) {
            if (where(reach, 0, s) == where(other, 0, s) && where(reach, 0, s) != SEA) {
                steps.add(s);
            }
        }
        return steps;
    }

    int meet(int reach, int other) {
        if (!isReach(reach) || !isReach(other)) {
            return -2;
        }
        List<Integer> steps = shared(reach, other);
        return steps.isEmpty() ? -1 : steps.get(0);
    }

    int alike(int reach, int other) {
        return isReach(reach) && isReach(other) ? shared(reach, other).size() : -2;
    }

    int busy(int step) {
        int best = -1;
        for (int r = 0; r < now.reaches.size() && isStep(step); r++) {
            int most = best < 0 ? 0 : Integer.bitCount(from(best, step));
            best = Integer.bitCount(from(r, step)) > most ? r : best;
        }
        return isStep(step) ? best : -2;
    }

    int mouths() {
        return now.lines > 0 ? reachesThat(r -> now.reaches.get(r)[0] == SEA) : -2;
    }

    int springs() {
        return now.lines > 0 ? reachesThat(r -> now.reaches.stream().noneMatch(other -> other[0] == r)
                && now.joins.stream().noneMatch(j -> j[1] == r)) : -2;
    }

    private List<Integer> toldWay(int reach) {
        List<Integer> all = new ArrayList<>();
        for (int at = reach; at != SEA && all.size() < 30; at = now.reaches.get(at)[0]) {
            all.add(at);
        }
        return all;
    }

    int depth(int reach) {
        return !isReach(reach) ? -2 : toldWay(reach).size() < 30 ? toldWay(reach).size() : -1;
    }

    int rings() {
        return now.lines > 0 ? reachesThat(r -> toldWay(r).lastIndexOf(r) > 0) : -2;
    }

    int goes(int join, int step) {
        if (!isJoin(join) || !isStep(step)) {
            return -2;
        }
        int[] j = now.joins.get(join);
        return !shutNow().contains(join) && step % j[2] == j[3] ? 1 : 0;
    }

    // Put in at any STEP.

    int can(int reach) {
        return isReach(reach) ? reachesThat(r -> often(reach, r) > 0) : -2;
    }

    private static final int NO_ARRIVAL = 999;

    private int[] arrivals(int reach, int other) {
        int[] all = new int[61];
        for (int s = 0; s <= 60; s++) {
            int c = comes(reach, s, other);
            all[s] = c < 0 ? NO_ARRIVAL : c;
        }
        return all;
    }

    private boolean canCome(int reach, int other) {
        return Arrays.stream(arrivals(reach, other)).anyMatch(a -> a != NO_ARRIVAL);
    }

    private int delays(int reach, int other, boolean longest) {
        int best = -1;
        int[] all = arrivals(reach, other);
        for (int s = 60; s >= 0; s--) {
            int d = all[s] - s;
            if (all[s] != NO_ARRIVAL && (best < 0 || (longest ? d > best : d < best))) {
                best = d;
            }
        }
        return best;
    }

    int slowly(int reach, int other) {
        return isReach(reach) && isReach(other) ? delays(reach, other, true) : -2;
    }

    int quick(int reach, int other) {
        return isReach(reach) && isReach(other) ? delays(reach, other, false) : -2;
    }

    int quickly(int reach, int other) {
        if (!isReach(reach) || !isReach(other) || !canCome(reach, other)) {
            return isReach(reach) && isReach(other) ? -1 : -2;
        }
        int step = 0;
        while (arrivals(reach, other)[step] - step != quick(reach, other)) {
            step++;
        }
        return step;
    }

    int soon(int reach, int other) {
        if (!isReach(reach) || !isReach(other) || !canCome(reach, other)) {
            return isReach(reach) && isReach(other) ? -1 : -2;
        }
        int[] all = arrivals(reach, other);
        int first = Arrays.stream(all).min().getAsInt();
        int step = 60;
        while (all[step] != first) {
            step--;
        }
        return step;
    }

    int late(int reach, int other, int then) {
        if (!isReach(reach) || !isReach(other) || !isStep(then)) {
            return -2;
        }
        int last = -1;
        for (int s = 0; s <= then; s++) {
            last = where(reach, s, then) == other ? s : last;
        }
        return last;
    }

    int often(int reach, int other) {
        return isReach(reach) && isReach(other)
                ? (int) Arrays.stream(arrivals(reach, other)).filter(a -> a != NO_ARRIVAL).count() : -2;
    }

    private int stopping(int reach, int other) {
        int best = -1;
        int[] levels = levels();
        Set<Integer> shut = shutNow();
        for (int set = 0; set < 1 << now.reaches.size() && reach != other; set++) {
            boolean free = (set >> reach & 1) == 0 && (set >> other & 1) == 0;
            if (!free || best >= 0 && Integer.bitCount(best) <= Integer.bitCount(set)) {
                continue;
            }
            boolean none = true;
            for (int s = 0; s <= 60 && none; s++) {
                none = firstIn(visits(reach, s, levels, shut, set), other) < 0;
            }
            best = none ? set : best;
        }
        return best;
    }

    int stop(int reach, int other) {
        if (!isReach(reach) || !isReach(other)) {
            return -2;
        }
        int set = stopping(reach, other);
        return set < 0 ? -1 : Integer.bitCount(set);
    }

    int stops(int reach, int other) {
        return isReach(reach) && isReach(other) ? stopping(reach, other) : -2;
    }

    int shut(int reach, int step) {
        if (!canPut(reach, step)) {
            return -2;
        }
        TreeMap<Integer, Integer> first = new TreeMap<>();
        int asNow = sea(reach, step);
        first.put(asNow < 0 ? 99 : asNow, -1);
        for (int j = 0; j < now.joins.size(); j++) {
            Set<Integer> shut = shutNow();
            shut.add(j);
            int then = firstIn(visits(reach, step, levels(), shut, 0), SEA);
            first.putIfAbsent(then < 0 ? 99 : then, j);
        }
        return first.firstEntry().getValue();
    }

    int pour(int reach, int step, int at) {
        if (!canPut(reach, step) || !isStep(at)) {
            return -2;
        }
        for (int n = 0; n <= 60; n++) {
            int rain = n;
            if (firstIn(visits(reach, step, levels(s -> s == at ? rain : 0), shutNow(), 0), SEA) >= 0) {
                return n;
            }
        }
        return -1;
    }

    // SEEN.

    private int refuse(int slot) {
        if (slot < 0 || slot > 3 || now.lines == 0) {
            return -2;
        }
        if (slots[slot] == null) {
            return -6;
        }
        long[] row = slots[slot].numbers;
        for (int i = 0; i < row.length; i++) {
            if (row[i] < 0 || row[i] > (i % 2 == 0 ? 60 : now.reaches.size() - 1)) {
                return -2;
            }
        }
        return row.length % 2 == 0 ? 0 : -2;
    }

    private boolean fitsRow(int slot, List<Visit> visits) {
        long[] row = slots[slot].numbers;
        for (int i = 0; i < row.length; i += 2) {
            if (spot(visits, (int) row[i]) != row[i + 1]) {
                return false;
            }
        }
        return true;
    }

    /** Each pair as 100 times the REACH and the STEP. */
    private List<Integer> pairs(int slot) {
        List<Integer> all = new ArrayList<>();
        for (int r = 0; r < now.reaches.size(); r++) {
            for (int s = 0; s <= 60; s++) {
                if (fitsRow(slot, visits(r, s))) {
                    all.add(100 * r + s);
                }
            }
        }
        return all;
    }

    int fits(int slot) {
        return refuse(slot) != 0 ? refuse(slot) : pairs(slot).size();
    }

    int sources(int slot) {
        return refuse(slot) != 0 ? refuse(slot) : pairs(slot).stream().mapToInt(p -> 1 << p / 100).distinct().sum();
    }

    int source(int slot) {
        return refuse(slot) != 0 ? refuse(slot) : pairs(slot).stream().mapToInt(p -> p).min().orElse(-1);
    }

    private int[] worst(int slot) {
        int[] worst = new int[61];
        List<List<Visit>> all = new ArrayList<>();
        pairs(slot).forEach(p -> all.add(visits(p / 100, p % 100)));
        for (int s = 0; s <= 60; s++) {
            Map<Integer, Integer> count = new TreeMap<>();
            for (List<Visit> visits : all) {
                count.merge(spot(visits, s), 1, Integer::sum);
            }
            worst[s] = count.values().stream().mapToInt(n -> n).max().orElse(0);
        }
        return worst;
    }

    int ask(int slot) {
        if (refuse(slot) != 0) {
            return refuse(slot);
        }
        int[] worst = worst(slot);
        int least = Arrays.stream(worst).min().getAsInt();
        int step = 0;
        while (worst[step] != least) {
            step++;
        }
        return least < fits(slot) ? step : -1;
    }

    int doubts(int slot) {
        return refuse(slot) != 0 ? refuse(slot) : Math.min(fits(slot), Arrays.stream(worst(slot)).min().getAsInt());
    }

    private List<Integer> turns(int slot, int join, int reach) {
        List<Integer> all = new ArrayList<>();
        World kept = now;
        for (int each = 1; each <= 9; each++) {
            for (int at = 0; at < each; at++) {
                now = kept.copy();
                now.joins.get(join)[2] = each;
                now.joins.get(join)[3] = at;
                if (fitsRow(slot, visits(reach, 0))) {
                    all.add(10 * each + at);
                }
            }
        }
        now = kept;
        return all;
    }

    int turn(int slot, int join, int reach) {
        int no = isJoin(join) && isReach(reach) ? refuse(slot) : -2;
        return no != 0 ? no : turns(slot, join, reach).size();
    }

    int turned(int slot, int join, int reach) {
        int no = isJoin(join) && isReach(reach) ? refuse(slot) : -2;
        return no != 0 ? no : turns(slot, join, reach).isEmpty() ? -1 : turns(slot, join, reach).get(0);
    }

    // SLUICES.

    private static int share(int x, int y) {
        return x * (6 - x - y);
    }

    int answer(int y) {
        if (y < 0 || y > 4) {
            return -2;
        }
        int best = 4;
        for (int x = 3; x >= 0; x--) {
            best = share(x, y) >= share(best, y) ? x : best;
        }
        return best;
    }

    private List<Integer> restPairs() {
        List<Integer> all = new ArrayList<>();
        for (int x = 0; x <= 4; x++) {
            for (int y = 0; y <= 4; y++) {
                boolean rest = true;
                for (int z = 0; z <= 4; z++) {
                    rest &= share(z, y) <= share(x, y) && share(z, x) <= share(y, x);
                }
                if (rest) {
                    all.add(10 * x + y);
                }
            }
        }
        return all;
    }

    int rests() {
        return restPairs().size();
    }

    int rest() {
        return restPairs().get(0);
    }

    int has(int x, int y) {
        return x >= 0 && x <= 4 && y >= 0 && y <= 4 ? share(x, y) : -1000;
    }

    int treaty() {
        return 9;
    }

    // Chance.

    /** Of each LEVEL its weight in 10 to the power of the STEP. */
    private Map<Integer, BigInteger> weights(int step) {
        Map<Integer, BigInteger> here = new TreeMap<>();
        here.put(now.level + rainOf(0), BigInteger.ONE);
        for (int s = 1; s <= step; s++) {
            Map<Integer, BigInteger> next = new TreeMap<>();
            for (Map.Entry<Integer, BigInteger> e : here.entrySet()) {
                int level = (e.getKey() == 0 ? 0 : e.getKey() - 1) + rainOf(s);
                next.merge(level + now.swell, e.getValue().multiply(BigInteger.valueOf(now.odds)), BigInteger::add);
                next.merge(level, e.getValue().multiply(BigInteger.valueOf(10 - now.odds)), BigInteger::add);
            }
            here = next;
        }
        return here;
    }

    private static long lowest(BigInteger above, int step, int what) {
        BigInteger below = BigInteger.TEN.pow(step);
        BigInteger shared = above.gcd(below);
        return (what == 0 ? above : below).divide(shared).longValueExact();
    }

    private boolean hasChance(int step, int what) {
        return now.lines > 0 && step >= 0 && step <= 14 && (what == 0 || what == 1);
    }

    private BigInteger sum(int step, int least, int most) {
        return weights(step).entrySet().stream().filter(e -> e.getKey() >= least && e.getKey() <= most)
                .map(Map.Entry::getValue).reduce(BigInteger.ZERO, BigInteger::add);
    }

    long mean(int step, int what) {
        return hasChance(step, what) ? lowest(weights(step).entrySet().stream()
                .map(e -> e.getValue().multiply(BigInteger.valueOf(e.getKey()))).reduce(BigInteger.ZERO, BigInteger::add),
                step, what) : -2;
    }

    long chance(int step, int n, int what) {
        return hasChance(step, what) && n >= 0 && n <= 99 ? lowest(sum(step, n, 99999), step, what) : -2;
    }

    int risk(int reach, int p) {
        if (!isReach(reach) || p < 0 || p > 100) {
            return -2;
        }
        for (int s = 0; s <= 14; s++) {
            BigInteger due = BigInteger.TEN.pow(s).multiply(BigInteger.valueOf(p));
            if (sum(s, 0, now.reaches.get(reach)[2] - 1).multiply(BigInteger.valueOf(100)).compareTo(due) >= 0) {
                return s;
            }
        }
        return -1;
    }

    private boolean[] day(long seed) {
        boolean[] rains = new boolean[61];
        BigInteger x = BigInteger.valueOf(seed);
        for (int s = 1; s <= 60; s++) {
            x = x.multiply(BigInteger.valueOf(1103515245)).add(BigInteger.valueOf(12345)).mod(BigInteger.ONE.shiftLeft(31));
            rains[s] = x.shiftRight(16).mod(BigInteger.TEN).intValue() < now.odds;
        }
        return rains;
    }

    private int[] dayLevels(long seed) {
        boolean[] day = day(seed);
        return levels(s -> day[s] ? now.swell : 0);
    }

    int drawn(int seed, int what) {
        if (now.lines == 0 || seed < 0 || seed > 2000000000 || what < 0 || what > 1) {
            return -2;
        }
        int often = 0;
        for (boolean rain : day(seed)) {
            often += rain ? 1 : 0;
        }
        return what == 0 ? dayLevels(seed)[60] : often;
    }

    int luck(int seed, int n, int reach) {
        if (!isReach(reach) || seed < 0 || seed > 2000000000 || n < 1 || n > 20) {
            return -2;
        }
        int days = 0;
        for (long s = seed; s < (long) seed + n; s++) {
            days += firstIn(visits(reach, 0, dayLevels(s), shutNow(), 0), SEA) >= 0 ? 1 : 0;
        }
        return days;
    }

    // Acts, IMAGES and SLOTS.

    int close(int join, int on) {
        if (!isJoin(join) || on < 0 || on > 1) {
            return -2;
        }
        if (now.acts.size() == 30) {
            return -5;
        }
        int was = shutNow().contains(join) ? 1 : 0;
        now.acts.add(new int[] {'c', join, on});
        return was;
    }

    int pours(int step, int n) {
        if (!isStep(step) || n < 1 || n > 30) {
            return -2;
        }
        if (now.acts.size() == 30) {
            return -5;
        }
        now.acts.add(new int[] {'p', step, n});
        return levels()[step];
    }

    int undo() {
        if (now.lines == 0) {
            return -2;
        }
        if (now.acts.isEmpty()) {
            return -5;
        }
        now.acts.remove(now.acts.size() - 1);
        return now.acts.size();
    }

    int anew() {
        int were = now.acts.size();
        now.acts.clear();
        return now.lines == 0 ? -2 : were;
    }

    int deepen(int reach, int n) {
        if (!isReach(reach) || n < 0 || n > 20) {
            return -2;
        }
        if (!now.acts.isEmpty()) {
            return -5;
        }
        int was = now.reaches.get(reach)[2];
        now.reaches.get(reach)[2] = n;
        return was;
    }

    int count(int what) {
        int rows = 0;
        for (Slot slot : slots) {
            rows += slot != null ? 1 : 0;
        }
        int[] all = {now.level, now.odds, now.swell, now.reaches.size(), now.joins.size(), now.rains.size(),
            now.acts.size(), now.lines, tape.length(), rows};
        return what >= 0 && what < 10 ? all[what] : -1;
    }

    int image(int k) {
        if (k < 0 || k > 2) {
            return -2;
        }
        images[k] = now.copy();
        return 0;
    }

    int back(int k) {
        if (k < 0 || k > 2) {
            return -2;
        }
        if (images[k] == null) {
            return -6;
        }
        now = images[k].copy();
        return 0;
    }

    int row(int slot, int width, int n) {
        if (slot < 0 || slot > 3 || width < 0 || width > 3 || n > 60) {
            return -2;
        }
        if (n < 0) {
            return -3;
        }
        slots[slot] = new Slot(width, new long[n]);
        return 0;
    }

    int write(int slot, int i, long v) {
        if (slot < 0 || slot > 3) {
            return -2;
        }
        if (slots[slot] == null) {
            return -6;
        }
        if (i < 0 || i >= slots[slot].numbers.length) {
            return -7;
        }
        int bits = 8 << slots[slot].width;
        slots[slot].numbers[i] = v << 64 - bits >> 64 - bits;
        return 0;
    }

    int paste(int slot, int i, int to, int k, int n) {
        if (slot < 0 || slot > 3 || to < 0 || to > 3) {
            return -2;
        }
        Slot a = slots[slot];
        Slot b = slots[to];
        if (a == null || b == null) {
            return -6;
        }
        if (a.width != b.width) {
            return -8;
        }
        if (i < 0 || k < 0 || n < 0 || (long) i + n > a.numbers.length || (long) k + n > b.numbers.length) {
            return -7;
        }
        long[] were = a.numbers.clone();
        for (int j = 0; j < n; j++) {
            b.numbers[k + j] = were[i + j];
        }
        return 0;
    }
}
