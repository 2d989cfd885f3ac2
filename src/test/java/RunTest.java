import java.io.IOException;
import java.nio.file.Files;
import java.nio.file.Path;
import java.util.Comparator;
import java.util.stream.Stream;

/** `.ci/run` in small projects of this test's own: it counts what passed and failed, and fails where one fails. */
public final class RunTest {
    private static final Path SCRIPT = Path.of(".ci/run");
    private static final String PROGRAM = "public final class QuotedRiver { public int rests() { return 3; } }\n";
    private static final String NO_JAVA = "this is no Java\n";

    private final Path room;
    private final String what;

    /** A project, with a shared test where there is a text for it. */
    private RunTest(Path all, String what, String program, String own, String shared) throws IOException {
        this.what = what;
        room = Files.createTempDirectory(all, "room");
        write("own/src/main/java/QuotedRiver.java", program);
        write("own/src/test/java/OneTest.java", own);
        Files.createDirectories(room.resolve("shared/tests"));
        if (!shared.isEmpty()) {
            write("shared/tests/Other.java", shared.replace("OneTest", "Other"));
        }
        Files.createDirectories(script().getParent());
        Files.copy(SCRIPT, script());
    }

    private void write(String name, String text) throws IOException {
        Path file = room.resolve(name);
        Files.createDirectories(file.getParent());
        Files.writeString(file, text);
    }

    public static void main(String[] args) throws IOException, InterruptedException {
        Path all = Files.createTempDirectory("rooms");
        try {
            inRooms(all);
        } finally {
            remove(all);
        }
        Due.end();
    }

    private static void inRooms(Path all) throws IOException, InterruptedException {
        String passes = test("if (new QuotedRiver().rests() != 3) System.exit(1);");
        String fails = test("System.out.println(\"rests() answered 3\"); System.exit(1);");
        String stops = test("throw new IllegalStateException();");
        new RunTest(all, "all pass", PROGRAM, passes, passes).ends(true, "2 passed, 0 failed");
        new RunTest(all, "one of its own fails", PROGRAM, fails, passes).ends(false, "1 passed, 1 failed");
        new RunTest(all, "a shared one fails", PROGRAM, passes, fails).ends(false, "1 passed, 1 failed");
        new RunTest(all, "a shared one throws", PROGRAM, passes, stops).ends(false, "1 passed, 1 failed");
        new RunTest(all, "one of its own is no Java", PROGRAM, NO_JAVA, passes).ends(false, "");
        new RunTest(all, "a shared one is no Java", PROGRAM, passes, NO_JAVA).ends(false, "1 passed, 1 failed");
        new RunTest(all, "the class is no Java", NO_JAVA, passes, passes).ends(false, "");
        new RunTest(all, "there is no shared one", PROGRAM, passes, "").ends(false, "");
    }

    private static String test(String body) {
        return "public final class OneTest { public static void main(String[] args) { " + body + " } }\n";
    }

    private Path script() {
        return room.resolve("own/.ci/run");
    }

    private void ends(boolean well, String last) throws IOException, InterruptedException {
        // Elsewhere than in its project: it finds that by itself.
        ProcessBuilder run = new ProcessBuilder("sh", script().toString());
        run.directory(room.toFile());
        run.environment().put("TMPDIR", room.toString());
        run.redirectErrorStream(true);
        run.redirectOutput(room.resolve("said").toFile());
        int code = run.start().waitFor();
        String said = Files.readString(room.resolve("said"));
        Due.is(what + ": ends with 0, where it said\n" + said, code == 0 ? 1 : 0, well ? 1 : 0);
        if (!last.isEmpty()) {
            Due.is(what + ": the last line of\n" + said, said.endsWith("\n" + last + "\n") ? 1 : 0, 1);
        }
        Due.is(what + ": nothing of its own is left", hasClasses() ? 1 : 0, 0);
    }

    private boolean hasClasses() throws IOException {
        try (Stream<Path> files = Files.walk(room)) {
            return files.anyMatch(file -> file.toString().endsWith(".class"));
        }
    }

    private static void remove(Path all) throws IOException {
        try (Stream<Path> files = Files.walk(all)) {
            for (Path file : files.sorted(Comparator.reverseOrder()).toList()) {
                Files.delete(file);
            }
        }
    }
}
