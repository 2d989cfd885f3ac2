import java.lang.reflect.InvocationTargetException;
import java.lang.reflect.Method;
import java.lang.reflect.Modifier;
import java.util.ArrayList;
import java.util.Comparator;
import java.util.List;
import java.util.Random;

/** Calls of any method with any arguments, in any state: none may throw (LANGUAGE.md, rule 7). */
public final class WildTest {
    private static final int[] ENDS = {Integer.MIN_VALUE, Integer.MIN_VALUE + 1, -1000, -61, -10, -3, -2, -1, 0, 1, 2, 3, 4,
        5, 8, 9, 10, 11, 14, 15, 20, 21, 29, 30, 31, 59, 60, 61, 99, 100, 101, 680, 681, 700, 701, 2000000000, 2000000001,
        Integer.MAX_VALUE - 1, Integer.MAX_VALUE};
    private static final String[] TEXTS = {"", Samples.FOUR, Samples.GAPS, Samples.CHANCE, Samples.FORK, Samples.HIGH,
        Samples.rivers(60, 10, 9) + Samples.reach(9, 5, 20).repeat(10) + Samples.join(9, 9, 9, 8).repeat(5)
            + Samples.rain(30, 60).repeat(5), Samples.FOUR + "!"};

    private final Random random;
    private final QuotedRiver x = new QuotedRiver();

    private WildTest(long seed) {
        random = new Random(seed);
    }

    public static void main(String[] args) throws IllegalAccessException {
        List<Method> calls = new ArrayList<>();
        for (Method method : QuotedRiver.class.getDeclaredMethods()) {
            if (Modifier.isPublic(method.getModifiers())) {
                calls.add(method);
            }
        }
        calls.sort(Comparator.comparing(Method::getName));
        for (int seed = 0; seed < 300; seed++) {
            new WildTest(seed).run(calls);
        }
        Due.end();
    }

    private void run(List<Method> calls) throws IllegalAccessException {
        boolean mild = random.nextBoolean();
        // An object is used for 512 calls; a text takes 37 of them at most.
        for (int made = 0; made < 512 - 38; made++) {
            Method call = calls.get(random.nextInt(calls.size()));
            if (call.getName().equals("rivers")) {
                String text = random.nextInt(4) == 0 ? noise() : TEXTS[random.nextInt(TEXTS.length)];
                x.end(0);
                Due.tape(x, text);
                made += (text.length() + 19) / 20 + 2;
            }
            Object[] arguments = new Object[call.getParameterCount()];
            for (int k = 0; k < arguments.length; k++) {
                int some = mild && random.nextInt(5) != 0 ? random.nextInt(4) : any();
                arguments[k] = call.getParameterTypes()[k] == long.class ? (Object) random.nextLong() : (Object) some;
            }
            Due.is(call.getName(), answers(call, arguments), 1);
        }
    }

    private int any() {
        return random.nextInt(4) == 0 ? random.nextInt() : ENDS[random.nextInt(ENDS.length)];
    }

    private String noise() {
        StringBuilder s = new StringBuilder();
        for (int n = random.nextInt(200); n > 0; n--) {
            s.append((char) random.nextInt(256));
        }
        return s.toString();
    }

    private int answers(Method call, Object[] arguments) throws IllegalAccessException {
        try {
            call.invoke(x, arguments);
            return 1;
        } catch (InvocationTargetException e) {
            return 0;
        }
    }
}
