import java.io.IOException;
import java.lang.reflect.Field;
import java.lang.reflect.Method;
import java.lang.reflect.Modifier;
import java.nio.file.Files;
import java.nio.file.Path;
import java.util.ArrayList;
import java.util.List;
import java.util.Set;
import java.util.TreeSet;
import java.util.regex.Matcher;
import java.util.regex.Pattern;

/**
 * The class has the face that the document shows, and keeps to those rules of LANGUAGE.md that can
 * be seen in its text. To be run in the project's directory.
 */
public final class EchoPantryLanguageTest {
    private static final Path SOURCE = Path.of("src", "main", "java", "EchoPantry.java");
    private static final Path DOCUMENT = Path.of("..", "shared", "DOC.md");

    private static final Pattern HEAD = Pattern.compile("public ([^{;=]*?)\\s*[{;]");
    private static final Pattern THROW = Pattern.compile("\\bthrow\\b");
    private static final Pattern GOOD_THROW = Pattern.compile("\\bthrow new (IllegalStateException"
            + "|IllegalArgumentException|IndexOutOfBoundsException|ArithmeticException"
            + "|UnsupportedOperationException|NoSuchElementException|RuntimeException)\\((\"[^\"]*\")?\\);");
    private static final Pattern DIVISION = Pattern.compile("[/%]");
    private static final Pattern LIBRARY = Pattern.compile("\\b(Math|Integer|Long|System|Arrays)\\s*\\.\\s*(\\w+)");

    private static final int MAX_CLASSES = 12;
    private static final int MAX_FIELDS = 20;
    private static final int MAX_PARAMETERS = 7;
    private static final int MAX_METHOD_LINES = 60;

    private static int checks = 0;
    private static int wrong = 0;

    private static void check(String what, boolean isRight) {
        checks++;
        if (!isRight) {
            wrong++;
            System.out.println(what);
        }
    }

    private static String withoutComments(String source) {
        return source.replaceAll("(?s)/\\*.*?\\*/", "").replaceAll("//[^\n]*", "");
    }

    private static String withoutTexts(String code) {
        return code.replaceAll("\"[^\"\n]*\"", "\"\"").replaceAll("'(\\\\.|[^'\n])'", "' '");
    }

    /** The block of Java below "The public face". */
    private static String faceIn(String document) {
        int section = document.indexOf("## The public face");
        int start = document.indexOf("```java", section) + "```java".length();
        return document.substring(start, document.indexOf("```", start));
    }

    /** What stands behind each "public", up to its body or its semicolon, in one line each. */
    private static List<String> heads(String code) {
        List<String> heads = new ArrayList<>();
        Matcher head = HEAD.matcher(code);
        while (head.find()) {
            heads.add(head.group(1).replaceAll("\\s+", " "));
        }
        return heads;
    }

    private static void face(String code, String document) {
        List<String> due = heads(faceIn(document));
        List<String> got = heads(code);
        check("the document shows " + due.size() + " heads", due.size() == 51);
        for (String head : due) {
            check("not in the class: " + head, got.contains(head));
        }
        for (String head : got) {
            check("not in the document: " + head, due.contains(head));
        }
    }

    /** Rule 1: nothing of the class can be seen from outside but its face. */
    private static void members() {
        check("the class is public and final",
                EchoPantry.class.getModifiers() == (Modifier.PUBLIC | Modifier.FINAL));
        Set<String> open = new TreeSet<>();
        for (Method method : EchoPantry.class.getDeclaredMethods()) {
            boolean isPublic = Modifier.isPublic(method.getModifiers());
            check("not public, nor private: " + method, isPublic || Modifier.isPrivate(method.getModifiers()));
            if (isPublic) {
                open.add(method.getName());
            }
        }
        for (Method method : EchoPantry.class.getDeclaredMethods()) {
            check("a private method with a public name: " + method,
                    Modifier.isPublic(method.getModifiers()) || !open.contains(method.getName()));
        }
        for (Field field : EchoPantry.class.getDeclaredFields()) {
            check("not private: " + field, Modifier.isPrivate(field.getModifiers()));
        }
        for (Class<?> inside : EchoPantry.class.getDeclaredClasses()) {
            check("not static, or seen from outside: " + inside, Modifier.isStatic(inside.getModifiers())
                    && !Modifier.isPublic(inside.getModifiers()) && !Modifier.isProtected(inside.getModifiers()));
        }
    }

    /** Rules 5, 6 and 11: what the classes hold, and how large they are. */
    private static void classes() {
        List<Class<?>> all = new ArrayList<>(List.of(EchoPantry.class.getDeclaredClasses()));
        all.add(EchoPantry.class);
        check("too many classes: " + all.size(), all.size() <= MAX_CLASSES);
        Set<Class<?>> constants = Set.of(int.class, long.class, boolean.class, char.class, String.class);
        for (Class<?> one : all) {
            int fields = 0;
            for (Field field : one.getDeclaredFields()) {
                if (Modifier.isStatic(field.getModifiers())) {
                    check("a static field that is no constant: " + field,
                            Modifier.isFinal(field.getModifiers()) && constants.contains(field.getType()));
                } else {
                    fields++;
                }
            }
            check("too many fields in " + one, fields <= MAX_FIELDS);
            check("extends a class of its own: " + one, one.getSuperclass() == Object.class);
            for (Method method : one.getDeclaredMethods()) {
                check("too many parameters: " + method, method.getParameterCount() <= MAX_PARAMETERS);
                check("of every object: " + method,
                        !Set.of("equals", "hashCode", "toString").contains(method.getName()));
            }
        }
    }

    /**
     * Rules 3, 4, 6, 10 and 13: words and signs that the language leaves out, or that it allows with
     * limits and the class does without (try, catch, instanceof, record, clone, %).
     */
    private static void words(String code) {
        for (String word : List.of("package", "synchronized", "assert", "finally", "try", "catch", "instanceof",
                "record", "yield", "var", "volatile", "native", "transient", "strictfp", "goto", "Object", "Thread",
                "Random", "clone", "getClass")) {
            check("the class has the word " + word, !Pattern.compile("\\b" + word + "\\b").matcher(code).find());
        }
        for (String sign : List.of("->", "::", "@", "%", "...", "\" +", "+ \"", "\\u")) {
            check("the class has the sign " + sign, !code.contains(sign));
        }
        List<String> imports = new ArrayList<>();
        for (String line : code.split("\n")) {
            if (line.startsWith("import")) {
                imports.add(line);
            }
        }
        check("imports " + imports, imports.equals(List.of("import java.util.NoSuchElementException;")));
        check("names a library in full", !code.replace(imports.get(0), "").contains("java."));
        Set<String> calls = new TreeSet<>();
        Matcher call = LIBRARY.matcher(code);
        while (call.find()) {
            calls.add(call.group(1) + "." + call.group(2));
        }
        check("calls of the library: " + calls, Set.of("Math.max", "Math.floorMod").containsAll(calls));
    }

    /** Rule 6: each throw is a new exception of those that are allowed, with a written text. */
    private static void throwsAsWritten(String code) {
        long all = THROW.matcher(code).results().count();
        long good = GOOD_THROW.matcher(code).results().count();
        check(all + " throws, " + good + " as rule 6 wants them", all == good && all > 0);
    }

    /** Rule 7: the two divisions of the class are those of shares, each behind its test. */
    private static void divisions(String code) {
        check("a division that was not looked at", DIVISION.matcher(code).results().count() == 2
                && code.contains("(float) state.hitTotal / (float) hearings")
                && code.contains("(double) ages / (double) echoes"));
    }

    /** Rule 11: no method is long. */
    private static void lengths(String source) {
        int start = 0;
        String[] lines = source.split("\n");
        for (int i = 0; i < lines.length; i++) {
            if (lines[i].matches(" {4,8}[^ /*}].*\\{") && !lines[i].contains(" class ")) {
                start = i;
            }
            if (lines[i].matches(" {4,8}\\}")) {
                check("a long method at line " + (start + 1), i - start < MAX_METHOD_LINES);
                start = i;
            }
        }
    }

    private static void signs(String source) {
        check("a sign beyond 127", source.chars().allMatch(c -> c == '\n' || c >= 32 && c < 127));
    }

    public static void main(String[] args) throws IOException {
        String source = Files.readString(SOURCE);
        String code = withoutComments(source);
        String bare = withoutTexts(code);
        face(code, Files.readString(DOCUMENT));
        members();
        classes();
        words(bare);
        throwsAsWritten(code);
        divisions(bare);
        lengths(source);
        signs(source);
        System.out.println(checks + " checks, " + wrong + " wrong");
        if (wrong > 0) {
            System.exit(1);
        }
    }
}
