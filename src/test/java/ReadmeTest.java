import java.io.ByteArrayOutputStream;
import java.io.IOException;
import java.io.PrintStream;
import java.lang.reflect.Method;
import java.lang.reflect.Modifier;
import java.net.URL;
import java.net.URLClassLoader;
import java.nio.charset.StandardCharsets;
import java.nio.file.Files;
import java.nio.file.Path;
import java.util.ArrayList;
import java.util.List;
import java.util.Set;
import java.util.TreeSet;
import java.util.regex.Matcher;
import java.util.regex.Pattern;
import java.util.stream.Stream;
import javax.tools.ToolProvider;

/** README.md must be so of the class as it stands: its program, and what it names. */
public final class ReadmeTest {
    private static final Dues DUES = new Dues();
    private static final Path OUT = Path.of("build", "readme");

    public static void main(String[] args) throws IOException, ReflectiveOperationException {
        String page = Files.readString(Path.of("README.md"));
        program(between(page, "```java\n", "\n```"));
        calls(between(page, "### The calls", "\n## "));
        refusals(between(page, "### What a refusal is", "### "));
        faults(between(page, "### The text of a tongue", "### "));
        tests(between(page, "## How to run the tests", "\n## "));
        DUES.close("ReadmeTest");
    }

    /** To the page's end, if nothing ends it. */
    private static String between(String page, String begin, String end) {
        int from = page.indexOf(begin);
        DUES.holds("README.md has " + begin.trim(), from >= 0);
        String rest = from < 0 ? "" : page.substring(from + begin.length());
        int to = rest.indexOf(end);
        return to < 0 ? rest : rest.substring(0, to);
    }

    private static Set<String> found(String text, String pattern) {
        Set<String> all = new TreeSet<>();
        Matcher m = Pattern.compile(pattern).matcher(text);
        while (m.find()) {
            all.add(m.group(1));
        }
        return all;
    }

    private static void program(String source) throws IOException, ReflectiveOperationException {
        Files.createDirectories(OUT);
        Path file = OUT.resolve("Example.java");
        Files.writeString(file, source + "\n");
        int failed = ToolProvider.getSystemJavaCompiler().run(null, System.out, System.out, "-Xlint:all", "-Werror",
            "-cp", System.getProperty("java.class.path"), "-d", OUT.toString(), file.toString());
        DUES.due("compiling the program", failed, 0);
        List<String> rows = new ArrayList<>();
        for (String line : source.split("\n")) {
            if (line.contains("println(")) {
                rows.add(line.trim());
            }
        }
        String[] printed = failed == 0 ? run().split("\\R") : new String[0];
        DUES.due("rows printed", printed.length, rows.size());
        for (int k = 0; k < rows.size() && k < printed.length; k++) {
            Matcher told = Pattern.compile("// (-?[0-9]+)").matcher(rows.get(k));
            boolean answered = told.find();
            DUES.holds("an answer stands behind " + rows.get(k), answered);
            DUES.holds(rows.get(k) + " printed " + printed[k], answered && printed[k].equals(told.group(1)));
        }
    }

    private static String run() throws IOException, ReflectiveOperationException {
        PrintStream last = System.out;
        ByteArrayOutputStream bytes = new ByteArrayOutputStream();
        try (URLClassLoader loader = new URLClassLoader(new URL[] {OUT.toUri().toURL()})) {
            System.setOut(new PrintStream(bytes, true, StandardCharsets.UTF_8));
            loader.loadClass("Example").getMethod("main", String[].class).invoke(null, (Object) new String[0]);
        } finally {
            System.setOut(last);
        }
        return bytes.toString(StandardCharsets.UTF_8);
    }

    /** Each call of the face is named in the table, with as many arguments as it has, and no other. */
    private static void calls(String part) {
        Set<String> named = new TreeSet<>();
        Matcher m = Pattern.compile("`(\\w+)\\(([^)`]*)\\)`").matcher(part);
        while (m.find()) {
            named.add(m.group(1) + " " + (m.group(2).isEmpty() ? 0 : m.group(2).split(",").length));
        }
        Set<String> there = new TreeSet<>();
        for (Method method : OneWordLetters.class.getDeclaredMethods()) {
            if (Modifier.isPublic(method.getModifiers())) {
                there.add(method.getName() + " " + method.getParameterCount());
            }
        }
        DUES.holds("calls named: " + named + ", calls there: " + there, named.equals(there));
    }

    private static void refusals(String part) {
        List<String> rows = new ArrayList<>();
        Matcher m = Pattern.compile("\\| `(\\w+)` \\| (-[0-9]+) \\|").matcher(part);
        while (m.find()) {
            rows.add(m.group(1) + " " + m.group(2));
        }
        List<String> want = List.of("UNKNOWN " + OneWordLetters.UNKNOWN, "OUTSIDE " + OneWordLetters.OUTSIDE,
            "NOT " + OneWordLetters.NOT, "FULL " + OneWordLetters.FULL);
        DUES.same("refusals named", rows, want);
        DUES.holds("NONE is named", part.contains("`NONE` (" + OneWordLetters.NONE + ")"));
    }

    private static void faults(String part) {
        Set<String> named = found(part, "\\| (-1[0-9]) \\|");
        DUES.holds("faults named: " + named, named.equals(Set.of("-11", "-12", "-13", "-14")));
        String[] texts = {"word name 1 1;", "letter 1000;", "letter 2;letter 2;", "letter 2;word name 1 1;pair 0 0 1 1;pair 0 0 1 1;"};
        for (int k = 0; k < texts.length; k++) {
            OneWordLetters x = new OneWordLetters();
            Dues.feedText(x, texts[k]);
            DUES.due("fault of " + texts[k], x.tongue(), -11 - k);
            DUES.due("the text is gone", x.told(4), 0);
        }
    }

    /** Each test has its row, and each file beside the tests is named. */
    private static void tests(String part) throws IOException {
        Set<String> files = new TreeSet<>();
        try (Stream<Path> all = Files.list(Path.of("src", "test", "java"))) {
            all.forEach(file -> files.add(file.getFileName().toString().replace(".java", "")));
        }
        Set<String> tests = new TreeSet<>(files);
        tests.removeIf(name -> !name.endsWith("Test"));
        Set<String> rows = found(part, "\n\\| `(\\w+)` \\|");
        DUES.holds("tests named: " + rows + ", tests there: " + tests, rows.equals(tests));
        for (String name : files) {
            DUES.holds(name + " is named", part.contains("`" + name + "`"));
        }
        DUES.holds("what runs them is named and can be run", part.contains(".ci/run") && Files.isExecutable(Path.of(".ci", "run")));
    }
}
