import java.io.IOException;
import java.nio.file.Files;
import java.nio.file.Path;
import java.util.LinkedHashMap;
import java.util.Map;
import java.util.regex.Matcher;
import java.util.regex.Pattern;

/**
 * The sentences of DOC.md, Terms and promises: each test of EdgesTest names the one that it holds to, and at the
 * end none may be left that no test has named.
 */
final class Sentences {
    private static final Map<String, String> TEXTS = new LinkedHashMap<>();
    private static final Map<String, boolean[]> NAMED = new LinkedHashMap<>();
    private static String last = "";
    private static int askedBefore = 0;

    private Sentences() {
    }

    static void read() throws IOException {
        String document = Files.readString(Path.of("../shared/DOC.md"));
        String terms = document.substring(document.indexOf("## Terms"), document.indexOf("## Promise 1:"));
        collect(terms, "(?s)(?<=\n)([IV]+)\\. (.*?)(?=\n[IV]+\\. |$)", "Term ");
        String promises = document.substring(document.indexOf("## Promise 1:"), document.indexOf("## Not promised"));
        collect(promises, "(?s)## Promise ([0-9]+): [^\n]*\n+`[^`]*`: (.*?)(?=\n+## |$)", "Promise ");
        Due.is("Terms and promises", TEXTS.size(), 8 + 77);
    }

    private static void collect(String text, String pattern, String kind) {
        Matcher m = Pattern.compile(pattern).matcher(text);
        while (m.find()) {
            String words = plain(m.group(2).replace("```text", "").replace("```", ""));
            TEXTS.put(kind + m.group(1), words);
            NAMED.put(kind + m.group(1), new boolean[words.length()]);
        }
    }

    private static String plain(String text) {
        return text.replaceAll("\\s+", " ").strip();
    }

    /** What is asked from here on would be answered otherwise, if this sentence did not hold. */
    static void promise(int number, String... sentences) {
        name("Promise " + number, sentences);
    }

    static void term(String number, String... sentences) {
        name("Term " + number, sentences);
    }

    private static void name(String section, String... sentences) {
        lastHasAsked();
        last = section + ": " + sentences[0];
        Due.about(last);
        String text = TEXTS.get(section);
        for (String sentence : sentences) {
            int at = text == null ? -1 : text.indexOf(sentence);
            Due.is("said in the document", at >= 0 ? 1 : 0, 1);
            for (int i = 0; i < sentence.length() && at >= 0; i++) {
                NAMED.get(section)[at + i] = true;
            }
        }
        askedBefore = Due.asked();
    }

    private static void lastHasAsked() {
        Due.is("asked something", last.isEmpty() || Due.asked() > askedBefore ? 1 : 0, 1);
    }

    static void allAreNamed() {
        lastHasAsked();
        for (String section : TEXTS.keySet()) {
            Due.about(section);
            StringBuilder left = new StringBuilder();
            for (int i = 0; i < TEXTS.get(section).length(); i++) {
                left.append(NAMED.get(section)[i] ? " " : TEXTS.get(section).substring(i, i + 1));
            }
            String words = plain(left.toString().replaceAll("[.,;:]", " "));
            Due.is("words without a test: " + words, words.length(), 0);
        }
    }
}
