import java.lang.reflect.Constructor;
import java.lang.reflect.Field;
import java.lang.reflect.Method;
import java.lang.reflect.Modifier;
import java.nio.file.Files;
import java.nio.file.Path;
import java.util.ArrayList;
import java.util.Arrays;
import java.util.List;
import java.util.TreeSet;
import java.util.regex.Matcher;
import java.util.regex.Pattern;

/** Rules of LANGUAGE.md that can be seen from the class and from its source's words. */
public final class LanguageTest {
    private static final Path SOURCE = Path.of("src/main/java/WindPrice.java");
    private static final Path DOCUMENT = Path.of("../shared/DOC.md");
    private static final List<String> FACE = List.of(
        "wind(int,int)", "price(int,int)", "boat(int,int)", "boatIs(int,int)", "as(int,int)", "set(int,int,int)",
        "pay(int,int)", "blows(int)", "gone(int)", "feed(long,int)", "text(int)", "untell(int)", "hours(int)",
        "loose(int)", "seed(int)", "then(int,int,int)", "income(int)", "dearest(int,int)", "lee(int,int)",
        "who(int,int,int)", "voyage(int,int,int)", "voice(int,int,int)", "body(int)", "sheet(int,int,int)",
        "put(int,int,int)", "move(int,int,int,int,int)", "winds(int)", "judge(int)", "image()", "restore()",
        "tell(int)", "check(int)", "count(int)", "told(int)");
    private static final List<Class<?>> STATIC_TYPES = List.of(
        int.class, long.class, boolean.class, char.class, String.class, int[].class, long[].class, char[].class, byte[].class);

    private static int wrong = 0;

    private static void rule(int number, boolean kept, String what) {
        if (!kept) {
            wrong++;
            System.out.println("rule " + number + ": " + what);
        }
    }

    public static void main(String[] args) throws Exception {
        face();
        for (Class<?> inside : classes()) {
            members(inside);
        }
        String source = Files.readString(SOURCE);
        words(bare(source));
        if (Files.exists(DOCUMENT)) {
            faceOfDocument(Files.readString(DOCUMENT), source);
        } else {
            System.out.println("there is no " + DOCUMENT + ": whether the face is the document's wasn't looked at");
        }
        System.out.println(wrong == 0 ? "language: all rules are kept" : "language: " + wrong + " breaches");
        if (wrong != 0) {
            System.exit(1);
        }
    }

    private static List<Class<?>> classes() {
        List<Class<?>> all = new ArrayList<>();
        all.add(WindPrice.class);
        all.addAll(Arrays.asList(WindPrice.class.getDeclaredClasses()));
        return all;
    }

    private static void face() {
        Class<?> face = WindPrice.class;
        rule(1, Modifier.isPublic(face.getModifiers()) && Modifier.isFinal(face.getModifiers()), "not public and final");
        Constructor<?>[] made = face.getDeclaredConstructors();
        rule(1, made.length == 1 && Modifier.isPublic(made[0].getModifiers()) && made[0].getParameterCount() == 0, "constructors");
        TreeSet<String> open = new TreeSet<>();
        TreeSet<String> names = new TreeSet<>();
        for (Method m : face.getDeclaredMethods()) {
            if (!Modifier.isPrivate(m.getModifiers())) {
                String parameters = Arrays.toString(m.getParameterTypes()).replaceAll("[\\[\\] ]", "");
                open.add(m.getName() + "(" + parameters + ")");
                names.add(m.getName());
                rule(1, m.getReturnType() == int.class && Modifier.isPublic(m.getModifiers()), "face: " + m);
            }
        }
        rule(1, open.equals(new TreeSet<>(FACE)), "the face is " + open);
        for (Class<?> c : classes()) {
            for (Method m : c.getDeclaredMethods()) {
                boolean own = c == face && Modifier.isPublic(m.getModifiers());
                rule(1, own || !names.contains(m.getName()), "the name of a public method: " + m);
            }
        }
        for (Field f : face.getDeclaredFields()) {
            rule(1, Modifier.isPrivate(f.getModifiers()), "a field is not private: " + f);
        }
    }

    /** The document's face is in the source, line by line, with the headings that the document tells. */
    private static void faceOfDocument(String document, String source) {
        List<String> due = new ArrayList<>();
        Matcher heading = Pattern.compile("Ahead of the calls (`.*`) the interface says: (---- .*)\\.\n").matcher(document);
        while (heading.find()) {
            due.add("// " + heading.group(2));
            for (String name : heading.group(1).split(", ")) {
                Matcher line = Pattern.compile("    (public int " + name.replace("`", "") + "\\(.*\\));\n").matcher(document);
                due.add(line.find() ? line.group(1) + " {" : "no line of " + name);
            }
        }
        List<String> is = new ArrayList<>();
        for (String line : source.split("\n")) {
            if (line.matches("    public int .*|    // ---- .*")) {
                is.add(line.trim());
            }
        }
        rule(1, is.equals(due), "the face is " + is + ", due is " + due);
        rule(1, document.contains("public final class WindPrice {\n    public WindPrice();\n"), "the class, or its constructor");
        rule(1, document.split("    public ").length - 2 == FACE.size(), "the document's face is larger, or smaller");
    }

    private static void members(Class<?> c) {
        int fields = 0;
        if (c != WindPrice.class) {
            rule(2, Modifier.isStatic(c.getModifiers()) && !c.isAnonymousClass() && !c.isLocalClass(), "not static: " + c);
            rule(1, !Modifier.isPublic(c.getModifiers()) && !Modifier.isProtected(c.getModifiers()), "not private: " + c);
        }
        for (Field f : c.getDeclaredFields()) {
            if (Modifier.isStatic(f.getModifiers())) {
                rule(5, Modifier.isFinal(f.getModifiers()) && STATIC_TYPES.contains(f.getType()), "static: " + f);
            } else {
                fields++;
            }
        }
        rule(11, fields <= 20, c + " has " + fields + " fields");
        for (Method m : c.getDeclaredMethods()) {
            rule(11, m.getParameterCount() <= 7, "more than seven parameters: " + m);
            rule(6, !List.of("equals", "hashCode", "toString").contains(m.getName()), "not to be told: " + m);
        }
    }

    /** The source without comments, and with empty texts and signs. */
    private static String bare(String source) {
        return source
            .replaceAll("(?s)/\\*.*?\\*/", "")
            .replaceAll("//[^\n]*", "")
            .replaceAll("\"(\\\\.|[^\"\\\\])*\"", "\"\"")
            .replaceAll("'(\\\\.|[^'\\\\])'", "'x'");
    }

    private static void words(String bare) {
        String[] barred = {
            "throw", "throws", "try", "catch", "finally", "synchronized", "assert", "volatile", "native", "strictfp", "package", "var",
            "System\\.(?!arraycopy\\b)\\w+", "\\w+Exact", "Random", "Thread", "Object", "Exception", "Throwable", "HashMap", "stream",
        };
        for (String word : barred) {
            Matcher m = Pattern.compile("\\b" + word + "\\b").matcher(bare);
            rule(6, !m.find(), "the word " + word);
        }
        rule(2, !bare.contains("->") && !bare.contains("::"), "a lambda, or a method's reference");
        rule(2, !bare.contains("@"), "a note to the compiler");
        rule(4, bare.lines().filter(l -> l.startsWith("import")).allMatch(l -> l.equals("import java.util.Arrays;")), "imports");
        rule(9, !bare.matches("(?s).*(while \\(true\\)|for \\(;;\\)).*"), "a loop without an end");
        rule(11, Pattern.compile("\\bclass \\w+").matcher(bare).results().count() <= 12, "more than twelve classes");
        lengths(bare);
    }

    /** A method's lines go from its head to the bracket that stands below the head's first sign. */
    private static void lengths(String bare) {
        String[] lines = bare.split("\n");
        for (int i = 0; i < lines.length; i++) {
            Matcher head = Pattern.compile("^( {4}| {8})(?!return|if|for|while|switch|else)\\S.*\\) \\{$").matcher(lines[i]);
            if (head.matches()) {
                String end = head.group(1) + "}";
                int j = i;
                while (j < lines.length && !lines[j].equals(end)) {
                    j++;
                }
                rule(11, j - i < 60, "a method of " + (j - i + 1) + " lines: " + lines[i].trim());
            }
        }
    }
}
