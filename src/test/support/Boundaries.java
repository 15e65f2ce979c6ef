import java.lang.reflect.InvocationTargetException;
import java.lang.reflect.Method;
import java.lang.reflect.Modifier;
import java.nio.file.Files;
import java.nio.file.Path;
import java.util.ArrayList;
import java.util.Arrays;
import java.util.HashMap;
import java.util.LinkedHashMap;
import java.util.List;
import java.util.Map;
import java.util.regex.Matcher;
import java.util.regex.Pattern;

/**
 * Tests of the document's sentences. A test is named by its section and by the words of its sentence, as they stand
 * there, and is told as runs: "boat(10, 0) = 0; 3 x tell(5); count(7) = 3" are calls on a new object, with the answers
 * that are due. Two words stand for several calls: tape('t*p') feeds a text, law(1, 't*p') feeds it and is text(1).
 */
final class Boundaries {
    /** A sea in which there is some of everything, at HOUR 6, with the WIND out of the south; SHEET 3 is missing. */
    static final String RICH =
        "boat(64, 7); boat(45, 8); boat(23, 21); price(0, 9); price(2, 77); wind(6, 222); wind(20, 22); set(1, 4, 50);"
        + "set(0, 3, 2); law(0, 'b-m*h') = 1; law(1, 't*p-7') = 1; seed(99); hours(5);"
        + "sheet(0, 8, 3); put(0, 1, 12); sheet(1, 16, 4); put(1, 3, 403); sheet(2, 8, 2); tell(19); tape('b'); image();"
        + "hours(1); price(3, 8); tell(18); tell(18); tape('*1'); voice(1, 3, 7)";
    /** The same with an IMAGE whose HOUR is the last one. */
    static final String LATE = RICH + "; 41 x hours(240); hours(153); count(1) = 9999; image()";
    /** Eight BOATS. */
    static final String CROWDED = RICH + "; boat(10, 0); boat(30, 6); boat(56, 12); boat(69, 18); boat(0, 23) = 7";
    static final String NEW = "";

    private static final Path DOCUMENT = Path.of("../shared/DOC.md");
    private static final List<String> ERRORS = List.of("BEYOND", "NONE", "STATE", "FULL", "KIND", "PARTED");
    private static final int LOW = -1000000000;
    private static final int MOST_CALLS = 512;
    private static final Map<String, Method> FACE = face();

    private final String name;
    private final Map<String, List<String>> quotes = new LinkedHashMap<>();
    private int tests;
    private int wrong;

    Boundaries(String name) {
        this.name = name;
    }

    private static Map<String, Method> face() {
        Map<String, Method> methods = new HashMap<>();
        for (Method m : WindPrice.class.getDeclaredMethods()) {
            if (Modifier.isPublic(m.getModifiers())) {
                methods.put(m.getName(), m);
            }
        }
        return methods;
    }

    // ---- tests

    /** What a sentence asks, as runs, each on a new object. */
    void test(String section, String quote, String... runs) {
        begin(section, quote);
        for (String run : runs) {
            Asked asked = new Asked(section, quote, run);
            asked.runAll(run);
        }
    }

    /** Calls that are refused, each behind the same run: with what ERROR, and that they change nothing else. */
    void refused(String section, String quote, String setup, String... calls) {
        begin(section, quote);
        for (String call : calls) {
            refusedBut(section, quote, setup, call, "");
        }
    }

    /** A refused call that does change something: just what another run does. */
    void refusedBut(String section, String quote, String setup, String call, String otherwise) {
        begin(section, quote);
        Asked one = new Asked(section, quote, setup + "; " + otherwise);
        Asked other = new Asked(section, quote, setup + "; " + call);
        one.runAll(setup + "; " + otherwise);
        other.runAll(setup + "; " + call);
        String error = call.substring(call.lastIndexOf('=') + 1).trim();
        if (!ERRORS.contains(error)) {
            other.complain("this is no ERROR: " + error);
        }
        compare(one, other, error);
    }

    /** Calls that only look: they are no ERRORS, and change nothing. */
    void leaves(String section, String quote, String setup, String... calls) {
        begin(section, quote);
        Asked one = new Asked(section, quote, setup);
        Asked other = new Asked(section, quote, setup + "; " + String.join("; ", calls));
        one.runAll(setup);
        other.runAll(setup + "; " + String.join("; ", calls));
        compare(one, other, "");
    }

    private static void compare(Asked one, Asked other, String error) {
        for (int k = 1; k <= ERRORS.size(); k++) {
            int more = ERRORS.get(k - 1).equals(error) ? 1 : 0;
            int was = one.ask("told", k);
            int is = other.ask("told", k);
            if (is != was + more) {
                other.complain("behind it told(" + k + ") answered " + is + ", due is " + (was + more));
            }
        }
        String was = one.look();
        String is = other.look();
        if (!was.equals(is)) {
            other.complain("it changed this:\n" + was + "\nto this:\n" + is);
        }
    }

    /** Each of a call's arguments far outside, on both sides, with the others as they are: ERRORS by arguments. */
    static String[] farOutside(String call, String... errors) {
        List<String> calls = new ArrayList<>();
        String act = call.substring(0, call.indexOf('('));
        String[] arguments = call.substring(call.indexOf('(') + 1, call.indexOf(')')).split(", ");
        for (int i = 0; i < errors.length; i++) {
            for (String far : new String[] {"MIN", "MAX"}) {
                String[] changed = arguments.clone();
                changed[i] = far;
                if (!errors[i].isEmpty()) {
                    calls.add(act + "(" + String.join(", ", changed) + ") = " + errors[i]);
                }
            }
        }
        return calls.toArray(new String[0]);
    }

    private void begin(String section, String quote) {
        List<String> of = quotes.computeIfAbsent(section, s -> new ArrayList<>());
        if (!of.contains(quote)) {
            of.add(quote);
            tests++;
        }
    }

    /** Ends the program: with 1, if a test failed, or if a word of these sections of the document has no test. */
    void end(String... sections) throws Exception {
        if (Files.exists(DOCUMENT)) {
            String document = Files.readString(DOCUMENT);
            for (String section : sections) {
                everyWordHasATest(section, sectionOf(document, section));
            }
        } else {
            System.out.println("there is no " + DOCUMENT + ": whether each of its words has a test wasn't looked at");
        }
        for (String section : quotes.keySet()) {
            if (!Arrays.asList(sections).contains(section)) {
                complain(section + " isn't among the sections of this test");
            }
        }
        System.out.println(name + ": " + tests + " sentences, " + (wrong == 0 ? "all as due" : wrong + " answers are wrong"));
        if (wrong != 0) {
            System.exit(1);
        }
    }

    private void complain(String what) {
        wrong++;
        System.out.println(what);
    }

    // ---- the document

    private static String sectionOf(String document, String section) {
        String[][] ends = {
            {"What it is", "An object is used", "## The public face"},
            {"ERRORS", "ERRORS are answers", "1. THE SEA"},
            {"Part 1", "THE SEA has", "2. TEXTS"},
            {"Part 2", "TEXTS are", "3. AN HOUR"},
            {"Part 3", "AN HOUR goes", "4. VOICES"},
            {"Part 4", "VOICES of", "5. SHEETS"},
            {"Part 5", "SHEETS 0", "Ahead of the calls `wind`"},
            {section, "## " + section + ":", "## "},
        };
        for (String[] e : ends) {
            int from = document.indexOf(e[1]);
            if (e[0].equals(section) && from >= 0) {
                int to = document.indexOf(e[2], from + e[1].length());
                return plain(document.substring(from, to < 0 ? document.length() : to));
            }
        }
        return "";
    }

    private static String plain(String text) {
        return text
            .replaceAll("```\\w*", " ")
            .replaceAll("## [^\n]*", " ")
            .replaceAll("`[^`]*`:", " ")
            .replaceAll("\\s+", " ")
            .trim();
    }

    private void everyWordHasATest(String section, String text) {
        boolean[] has = new boolean[text.length()];
        for (String quote : quotes.getOrDefault(section, List.of())) {
            int at = text.indexOf(quote);
            if (at < 0) {
                complain(section + " has no such sentence: " + quote);
            }
            for (; at >= 0; at = text.indexOf(quote, at + 1)) {
                Arrays.fill(has, at, at + quote.length(), true);
            }
        }
        StringBuilder without = new StringBuilder();
        Matcher words = Pattern.compile("\\S+").matcher(text);
        while (words.find()) {
            boolean all = true;
            for (int i = words.start(); i < words.end(); i++) {
                all = all && has[i];
            }
            without.append(all ? "" : " " + words.group());
        }
        if (text.isEmpty() || without.length() > 0) {
            complain(section + " has words without a test:" + without);
        }
    }

    // ---- an object and what it was asked

    private final class Asked {
        private final WindPrice sea = new WindPrice();
        private final String story;
        private int calls;

        Asked(String section, String quote, String run) {
            story = section + ", \"" + quote + "\": " + run;
        }

        void complain(String what) {
            Boundaries.this.complain(story + "\n    " + what);
        }

        void runAll(String run) {
            for (String part : run.split(";")) {
                String step = part.trim();
                Matcher times = Pattern.compile("^(\\d+) x (.*)$").matcher(step);
                int n = times.matches() ? Integer.parseInt(times.group(1)) : 1;
                for (int i = 0; i < n && !step.isEmpty(); i++) {
                    step(times.matches() ? times.group(2) : step);
                }
            }
        }

        private void step(String step) {
            int open = step.indexOf('(');
            int close = step.indexOf(')', step.lastIndexOf('\'') + 1);
            String act = step.substring(0, open);
            String arguments = step.substring(open + 1, close);
            String rest = step.substring(close + 1).trim();
            int got;
            if (act.equals("tape")) {
                got = tape(unquoted(arguments));
            } else if (act.equals("law")) {
                tape(unquoted(arguments));
                got = ask("text", number(arguments.substring(0, arguments.indexOf(','))));
            } else {
                got = ask(act, numbers(arguments));
            }
            if (rest.startsWith("=")) {
                int want = (int) number(rest.substring(1));
                if (got != want) {
                    complain(step.substring(0, close + 1) + " answered " + got + ", due is " + want);
                }
            } else if (!rest.isEmpty()) {
                complain("this can't be read: " + step);
            }
        }

        private String unquoted(String arguments) {
            return arguments.substring(arguments.indexOf('\'') + 1, arguments.lastIndexOf('\''));
        }

        private int tape(String text) {
            int got = 0;
            for (int i = 0; i < text.length(); i += 8) {
                int n = Math.min(8, text.length() - i);
                long word = 0;
                for (int j = n - 1; j >= 0; j--) {
                    word = word << 8 | text.charAt(i + j);
                }
                got = ask("feed", word, n);
            }
            return got;
        }

        private long[] numbers(String arguments) {
            if (arguments.isBlank()) {
                return new long[0];
            }
            return Arrays.stream(arguments.split(",")).mapToLong(this::number).toArray();
        }

        private long number(String word) {
            String w = word.trim();
            if (ERRORS.contains(w)) {
                return LOW - 1 - ERRORS.indexOf(w);
            }
            if (w.startsWith("0x")) {
                return Long.parseUnsignedLong(w.substring(2), 16);
            }
            return w.equals("MIN") ? Integer.MIN_VALUE : w.equals("MAX") ? Integer.MAX_VALUE : Long.parseLong(w);
        }

        int ask(String act, long... a) {
            Method method = FACE.get(act);
            Class<?>[] types = method.getParameterTypes();
            Object[] values = new Object[types.length];
            for (int i = 0; i < values.length; i++) {
                values[i] = types[i] == long.class ? (Object) a[i] : (Object) Math.toIntExact(a[i]);
            }
            calls++;
            if (calls == MOST_CALLS + 1) {
                complain("this run has more than " + MOST_CALLS + " calls");
            }
            try {
                return (Integer) method.invoke(sea, values);
            } catch (InvocationTargetException e) {
                complain(act + Arrays.toString(a) + " throws " + e.getCause());
                return Integer.MIN_VALUE;
            } catch (IllegalAccessException e) {
                throw new IllegalStateException(e);
            }
        }

        /** All that the face tells of the object, but for told(); the object is of no use behind it. */
        String look() {
            StringBuilder all = new StringBuilder();
            lookAtSea(all);
            for (int s = 0; s < 4; s++) {
                lookAtSheet(all, s);
            }
            all.append(" restored: ").append(ask("restore"));
            lookAtSea(all);
            all.append(" images: ").append(ask("image"));
            return all.toString();
        }

        private void lookAtSea(StringBuilder all) {
            for (int what = 0; what <= 13; what++) {
                all.append(' ').append(ask("count", what));
            }
            all.append(" bodies:");
            for (int i = 0; i < ask("count", 8); i++) {
                all.append(' ').append(ask("body", i));
            }
            int boats = ask("count", 0);
            for (int boat = 0; boat < boats; boat++) {
                all.append(" boat:");
                for (int what = 0; what <= 9; what++) {
                    all.append(' ').append(ask("boatIs", boat, what));
                }
            }
            all.append(" laws: ").append(ask("income", 9)).append(' ').append(ask("then", 2, 0, 8));
            all.append(" waiting: ").append(ask("check", 2));
            all.append(" tape: ").append(ask("feed", '1', 1)).append(' ').append(ask("text", 0));
            all.append(' ').append(ask("then", 2, 0, 8));
            all.append(" wind:");
            for (int hour = 0; hour < 24; hour++) {
                all.append(' ').append(ask("wind", hour, 3));
            }
            all.append(" untold: ").append(ask("untell", 0)).append(' ').append(ask("untell", 1));
        }

        /** Its length, by where no numbers stand; its numbers, as WIND; its bits, by what they make of two numbers. */
        private void lookAtSheet(StringBuilder all, int s) {
            int size = ask("move", s, 0, s, 0, 0);
            for (int step = 16; size >= 0 && step > 0; step /= 2) {
                size += ask("move", s, size + step, s, 0, 0) == 0 ? step : 0;
            }
            all.append(" sheet of ").append(size).append(':');
            int came = ask("winds", s);
            for (int i = 0; i < came; i++) {
                all.append(' ').append(ask("wind", i, 3));
            }
            all.append(" bits: ").append(ask("put", s, 0, 256 + 103)).append(' ').append(ask("winds", s));
            all.append(' ').append(ask("put", s, 0, 65536 + 303)).append(' ').append(ask("winds", s));
        }
    }
}
