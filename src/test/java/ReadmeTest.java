import java.io.IOException;
import java.lang.reflect.Method;
import java.nio.file.Files;
import java.nio.file.Path;
import java.util.ArrayList;
import java.util.List;
import java.util.regex.Matcher;
import java.util.regex.Pattern;

/** README.md: the calls that it shows are made here, as they stand there, and the files that it names are there. */
public final class ReadmeTest {
    private static final Path README = Path.of("README.md");
    private static final Path SELF = Path.of("src/test/java/ReadmeTest.java");

    private static final Pattern MAKE = Pattern.compile("QuotedRiver x = new QuotedRiver\\(\\);");
    private static final Pattern PUT = Pattern.compile("put\\(x, \"([^\"]*)\"\\);");
    private static final Pattern FEED = Pattern.compile("x\\.feed\\(([^)]*)\\); // \"(.*)\"");
    private static final Pattern CALL = Pattern.compile("x\\.([a-z]+)\\(([^)]*)\\); +// (-?[0-9]+)(: .*)?");

    private static QuotedRiver x = new QuotedRiver();
    private static int shown = 0;

    public static void main(String[] args) throws ReflectiveOperationException, IOException {
        String readme = Files.readString(README);
        String self = Files.readString(SELF);
        for (String block : blocks(readme)) {
            if (block.startsWith("static ")) {
                Due.is("the functions shown are those below", self.contains(indented(block)) ? 1 : 0, 1);
            } else {
                make(block);
            }
        }
        Due.is("calls shown with their answers", shown >= 30 ? 1 : 0, 1);
        refusalsNamed(readme);
        filesNamed(readme);
        Due.end();
    }

    private static List<String> blocks(String readme) {
        List<String> blocks = new ArrayList<>();
        Matcher m = Pattern.compile("(?s)```java\n(.*?)\n```").matcher(readme);
        while (m.find()) {
            blocks.add(m.group(1));
        }
        Due.is("blocks", blocks.size() >= 6 ? 1 : 0, 1);
        return blocks;
    }

    private static String indented(String block) {
        StringBuilder s = new StringBuilder();
        for (String line : block.split("\n")) {
            s.append(line.isEmpty() ? "" : "    ").append(line).append("\n");
        }
        return s.toString().replace("    static ", "    private static ");
    }

    private static void make(String block) throws ReflectiveOperationException {
        for (String line : block.split("\n")) {
            Matcher put = PUT.matcher(line);
            Matcher feed = FEED.matcher(line);
            Matcher call = CALL.matcher(line);
            if (MAKE.matcher(line).matches()) {
                x = new QuotedRiver();
            } else if (put.matches()) {
                put(x, put.group(1));
            } else if (feed.matches()) {
                feed(feed.group(1), feed.group(2));
            } else if (call.matches()) {
                Due.is(line, answer(call.group(1), call.group(2)), Long.parseLong(call.group(3)));
                shown++;
            } else {
                Due.is("README.md shows, and this test can't do it: " + line, 0, 1);
            }
        }
    }

    /** The numbers of the call have the bytes that are told beside it. */
    private static void feed(String numbers, String told) throws ReflectiveOperationException {
        StringBuilder bytes = new StringBuilder();
        for (String number : numbers.split(", ")) {
            for (int shift = 24; shift >= 0; shift -= 8) {
                bytes.append((char) (Integer.decode(number) >> shift & 255));
            }
        }
        Due.is("bytes of " + told + ": " + bytes, bytes.toString().equals(told) ? 1 : 0, 1);
        int ahead = x.count(8);
        Due.is("feed", answer("feed", numbers), ahead + 20);
    }

    private static long answer(String name, String told) throws ReflectiveOperationException {
        String[] numbers = told.isEmpty() ? new String[0] : told.split(", ");
        for (Method method : QuotedRiver.class.getMethods()) {
            if (method.getName().equals(name) && method.getParameterCount() == numbers.length) {
                Object[] arguments = new Object[numbers.length];
                for (int i = 0; i < numbers.length; i++) {
                    boolean wide = method.getParameterTypes()[i] == long.class;
                    arguments[i] = wide ? (Object) Long.decode(numbers[i]) : (Object) Integer.decode(numbers[i]);
                }
                return ((Number) method.invoke(x, arguments)).longValue();
            }
        }
        Due.is("there is a method " + name + " of so many", 0, 1);
        return 0;
    }

    private static void refusalsNamed(String readme) {
        Due.is("NONE", QuotedRiver.NONE, -1);
        Due.is("it says so", readme.contains("is -1 (`QuotedRiver.NONE`)") ? 1 : 0, 1);
    }

    /** `*` in a name stands for at least one file of that kind. */
    private static void filesNamed(String readme) throws IOException {
        Matcher m = Pattern.compile("`([^`\n]*\\.(?:java|md)|[^`\n]*/[^`\n]*)`").matcher(readme);
        int named = 0;
        while (m.find()) {
            String name = m.group(1).replaceAll("^(javac|bash) ", "");
            boolean there = name.contains("*") ? matches(name) : isThere(name);
            Due.is("there is " + name, there ? 1 : 0, 1);
            named++;
        }
        Due.is("files named", named >= 10 ? 1 : 0, 1);
    }

    private static boolean isThere(String name) {
        return Files.exists(Path.of(name)) || Files.exists(SELF.resolveSibling(name));
    }

    private static boolean matches(String name) throws IOException {
        try (var files = Files.newDirectoryStream(SELF.getParent(), name)) {
            return files.iterator().hasNext();
        }
    }

    // As README.md shows them.

    private static void put(QuotedRiver x, String text) {
        for (int at = 0; at < text.length(); at += 20) {
            x.feed(four(text, at), four(text, at + 4), four(text, at + 8), four(text, at + 12), four(text, at + 16));
        }
    }

    private static int four(String text, int at) {
        int bytes = 0;
        for (int i = at; i < at + 4; i++) {
            bytes = bytes << 8 | (i < text.length() ? text.charAt(i) : ' ');
        }
        return bytes;
    }
}
