import java.lang.reflect.Method;
import java.lang.reflect.Modifier;
import java.nio.file.Files;
import java.nio.file.Path;
import java.util.ArrayList;
import java.util.List;
import java.util.TreeSet;
import java.util.regex.Matcher;
import java.util.regex.Pattern;
import java.util.stream.Stream;

/** What README.md shows is so: its calls and their answers, the names of the tests, and how one of them is run. */
public final class ReadmeTest {
    private static final Path README = Path.of("README.md");
    private static final Path TESTS = Path.of("src/test/java");
    private static final List<String> ERRORS = List.of("BEYOND", "NONE", "STATE", "FULL", "KIND", "PARTED");
    private static final int LOW = -1000000000;
    private static final String NEW = "WindPrice sea = new WindPrice();";
    private static final Pattern CALL = Pattern.compile("sea\\.(\\w+)\\(([^)]*)\\); *// ([A-Z]+|-?\\d+)(: .+)?");

    private static final TreeSet<String> shown = new TreeSet<>();
    private static int calls = 0;
    private static int wrong = 0;

    public static void main(String[] args) throws Exception {
        String readme = Files.readString(README);
        for (String block : blocks(readme, "java")) {
            runCalls(block);
        }
        everyActIsShown();
        namesOfTests(readme);
        commands(readme);
        System.out.println("readme: " + calls + " calls, " + (wrong == 0 ? "all as due" : wrong + " things are not so"));
        if (wrong != 0) {
            System.exit(1);
        }
    }

    private static void complain(String what) {
        wrong++;
        System.out.println(what);
    }

    private static List<String> blocks(String readme, String kind) {
        List<String> found = new ArrayList<>();
        Matcher block = Pattern.compile("```" + kind + "\n(.*?)```", Pattern.DOTALL).matcher(readme);
        while (block.find()) {
            found.add(block.group(1));
        }
        if (found.isEmpty()) {
            complain("README.md shows no " + kind);
        }
        return found;
    }

    // ---- calls

    private static void runCalls(String block) throws Exception {
        WindPrice sea = null;
        for (String line : block.split("\n")) {
            Matcher call = CALL.matcher(line);
            if (line.equals(NEW)) {
                sea = new WindPrice();
            } else if (sea == null || !call.matches()) {
                complain("this line can't be read: " + line);
            } else {
                long want = due(call.group(3));
                long got = ask(sea, call.group(1), call.group(2));
                if (got != want) {
                    complain(line + "\n    answered " + got);
                }
            }
        }
    }

    private static long due(String answer) {
        return ERRORS.contains(answer) ? LOW - 1 - ERRORS.indexOf(answer) : Long.parseLong(answer);
    }

    private static int ask(WindPrice sea, String act, String arguments) throws Exception {
        String[] words = arguments.isEmpty() ? new String[0] : arguments.split(", ");
        for (Method m : WindPrice.class.getDeclaredMethods()) {
            if (m.getName().equals(act) && Modifier.isPublic(m.getModifiers()) && m.getParameterCount() == words.length) {
                Object[] values = new Object[words.length];
                for (int i = 0; i < values.length; i++) {
                    boolean wide = m.getParameterTypes()[i] == long.class;
                    values[i] = wide ? (Object) Long.decode(words[i].replace("L", "")) : (Object) Integer.decode(words[i]);
                }
                shown.add(act);
                calls++;
                return (Integer) m.invoke(sea, values);
            }
        }
        complain("the face has no " + act + "(" + arguments + ")");
        return 0;
    }

    private static void everyActIsShown() {
        for (Method m : WindPrice.class.getDeclaredMethods()) {
            if (Modifier.isPublic(m.getModifiers()) && !shown.contains(m.getName())) {
                complain("README.md doesn't show " + m.getName() + "()");
            }
        }
    }

    // ---- tests

    private static void namesOfTests(String readme) throws Exception {
        TreeSet<String> named = new TreeSet<>();
        Matcher name = Pattern.compile("`(\\w+Test)`").matcher(readme);
        while (name.find()) {
            named.add(name.group(1));
        }
        TreeSet<String> there = new TreeSet<>();
        try (Stream<Path> files = Files.list(TESTS)) {
            files.forEach(f -> there.add(f.getFileName().toString().replace(".java", "")));
        }
        if (!named.equals(there)) {
            complain("README.md names the tests " + named + ", but there are " + there);
        }
    }

    /** .ci/run is what runs this test: it is only looked at, so that it doesn't run itself. */
    private static void commands(String readme) throws Exception {
        for (String block : blocks(readme, "sh")) {
            if (block.equals(".ci/run\n")) {
                if (!Files.isExecutable(Path.of(".ci/run"))) {
                    complain(".ci/run can't be run");
                }
            } else {
                Process process = new ProcessBuilder("sh", "-e", "-c", block).inheritIO().start();
                if (process.waitFor() != 0) {
                    complain("this fails:\n" + block);
                }
            }
        }
    }
}
