import java.io.IOException;
import java.lang.reflect.Constructor;
import java.lang.reflect.Field;
import java.lang.reflect.Method;
import java.lang.reflect.Modifier;
import java.nio.file.Files;
import java.nio.file.Path;
import java.util.HashSet;
import java.util.List;
import java.util.Set;
import java.util.TreeSet;
import java.util.regex.Matcher;
import java.util.regex.Pattern;

/** The face of the class as the document has it, and the rules of LANGUAGE.md that can be seen from outside. */
public final class FaceTest {
    private static final Path DOCUMENT = Path.of("../shared/DOC.md");
    private static final Path PROGRAM = Path.of("src/main/java/QuotedRiver.java");

    public static void main(String[] args) throws IOException {
        String program = Files.readString(PROGRAM);
        String code = program.replaceAll("(?s)/\\*.*?\\*/", "").replaceAll("//[^\n]*", "");
        face(Files.readString(DOCUMENT));
        readme();
        classes();
        words(code);
        library(code);
        lengths(code);
        Due.end();
    }

    private static void holds(String what, boolean holds) {
        Due.is(what, holds ? 1 : 0, 1);
    }

    /** The methods of the document's "public face" and the class's own are the same. */
    private static void face(String document) {
        Set<String> due = new TreeSet<>();
        int from = document.indexOf("```java");
        String face = document.substring(from, document.indexOf("```", from + 5));
        Matcher m = Pattern.compile("public (int|long) ([a-z]+)\\(([^)]*)\\);").matcher(face);
        while (m.find()) {
            due.add(m.group(1) + " " + m.group(2) + "(" + m.group(3).replaceAll(" [a-z]+(?=,|$)", "") + ")");
        }
        Set<String> there = new TreeSet<>();
        for (Method method : QuotedRiver.class.getDeclaredMethods()) {
            if (!Modifier.isPrivate(method.getModifiers())) {
                there.add(told(method));
                holds("public: " + method, method.getModifiers() == Modifier.PUBLIC);
            }
        }
        Due.is("methods of the document", due.size(), 76);
        holds("face: " + due + " is " + there, due.equals(there));
        holds("final and public", QuotedRiver.class.getModifiers() == (Modifier.PUBLIC | Modifier.FINAL));
        Constructor<?>[] makers = QuotedRiver.class.getDeclaredConstructors();
        holds("one constructor", makers.length == 1 && makers[0].getModifiers() == Modifier.PUBLIC
                && makers[0].getParameterCount() == 0);
        for (Field field : QuotedRiver.class.getDeclaredFields()) {
            boolean none = field.getName().equals("NONE");
            holds("field " + field, none ? field.getModifiers() == (Modifier.PUBLIC | Modifier.STATIC | Modifier.FINAL)
                    : Modifier.isPrivate(field.getModifiers()));
        }
        Due.is("NONE", QuotedRiver.NONE, -1);
    }

    private static String told(Method method) {
        StringBuilder s = new StringBuilder(method.getReturnType() + " " + method.getName() + "(");
        for (Class<?> type : method.getParameterTypes()) {
            s.append(s.charAt(s.length() - 1) == '(' ? "" : ", ").append(type);
        }
        return s.append(")").toString();
    }

    /** What README.md shows of its use. */
    private static void readme() {
        QuotedRiver x = new QuotedRiver();
        x.feed(0x72697665, 0x7273206c, 0x6576656c, 0x2035206f, 0x64647320);
        x.feed(0x30207377, 0x656c6c20, 0x313b2020, 0x20202020, 0x20202020);
        x.feed(0x72656163, 0x6820746f, 0x20736561, 0x2074616b, 0x65732031);
        x.feed(0x206c6f77, 0x20303b20, 0x20202020, 0x20202020, 0x20202020);
        Due.is("end", x.end(70), 70);
        Due.is("rivers", x.rivers(), 2);
        Due.is("sea", x.sea(0, 0), 1);
    }

    private static void classes() {
        Set<String> names = new HashSet<>();
        for (Method method : QuotedRiver.class.getDeclaredMethods()) {
            if (Modifier.isPublic(method.getModifiers())) {
                names.add(method.getName());
            }
        }
        Class<?>[] inside = QuotedRiver.class.getDeclaredClasses();
        holds("classes: " + inside.length, inside.length <= 11);
        fields(QuotedRiver.class);
        for (Class<?> each : inside) {
            int modifiers = each.getModifiers();
            holds("static: " + each, Modifier.isStatic(modifiers) && !Modifier.isPublic(modifiers));
            fields(each);
            privateNames(each, names);
        }
        privateNames(QuotedRiver.class, names);
    }

    private static void fields(Class<?> of) {
        int fields = 0;
        for (Field field : of.getDeclaredFields()) {
            boolean fixed = Modifier.isStatic(field.getModifiers());
            fields += fixed ? 0 : 1;
            holds("static and final: " + field, !fixed || Modifier.isFinal(field.getModifiers()));
        }
        holds("fields of " + of + ": " + fields, fields <= 20);
    }

    private static void privateNames(Class<?> of, Set<String> names) {
        for (Method method : of.getDeclaredMethods()) {
            boolean own = of == QuotedRiver.class && Modifier.isPublic(method.getModifiers());
            holds("name of " + method, own || !names.contains(method.getName()));
            holds("parameters of " + method, method.getParameterCount() <= 7);
        }
    }

    /** Rules 2, 5, 6 and 10. */
    private static void words(String code) {
        List<String> none = List.of("throw", "throws", "try", "catch", "finally", "synchronized", "assert", "import",
                "package", "native", "protected", "transient", "volatile", "hashCode", "toString", "System", "Object",
                "double", "float", "yield", "var");
        for (String word : none) {
            holds("no " + word, !Pattern.compile("\\b" + word + "\\b").matcher(code).find());
        }
        holds("no lambda", !code.contains("->"));
        holds("no method reference", !code.contains("::"));
        holds("no joining of texts", !Pattern.compile("\"\\s*\\+|\\+\\s*\"").matcher(code).find());
        holds("signs", code.chars().allMatch(sign -> sign < 127));
    }

    /** Rule 4: of the library it uses but these. */
    private static void library(String code) {
        Matcher m = Pattern.compile("\\b(Math|Integer|Long|Arrays|String)\\.([a-zA-Z]+)").matcher(code);
        while (m.find()) {
            holds(m.group(), Set.of("Math.max", "Math.min", "Integer.bitCount").contains(m.group()));
        }
    }

    /** Rule 11: methods of some sixty lines. */
    private static void lengths(String code) {
        int begun = -1;
        String[] lines = code.split("\n");
        for (int i = 0; i < lines.length; i++) {
            String indent = lines[i].replaceAll("\\S.*", "");
            if (lines[i].matches("\\s+(public|private)[^=;]*\\) \\{")) {
                begun = i;
            } else if (begun >= 0 && lines[i].equals(lines[begun].replaceAll("\\S.*", "") + "}")) {
                holds("length of " + lines[begun] + ": " + (i - begun), i - begun <= 60);
                begun = -1;
            }
            holds("tab in " + lines[i], !indent.contains("\t"));
        }
    }
}
