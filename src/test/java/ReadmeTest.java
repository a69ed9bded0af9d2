import java.io.IOException;
import java.lang.reflect.InvocationTargetException;
import java.lang.reflect.Method;
import java.lang.reflect.Modifier;
import java.net.URL;
import java.net.URLClassLoader;
import java.nio.file.Files;
import java.nio.file.Path;
import java.util.List;
import java.util.Map;
import java.util.Set;
import java.util.TreeMap;
import java.util.TreeSet;
import java.util.regex.Matcher;
import java.util.regex.Pattern;
import javax.tools.JavaCompiler;
import javax.tools.ToolProvider;

/** What README.md says is so: its examples answer as they tell, and its tables have all calls and their refusals. */
public final class ReadmeTest {
    private static final Path README = Path.of("README.md");
    private static final Path DOCUMENT = Path.of("../shared/DOC.md");

    /** A call of an example, with the answer that it tells behind it. */
    private static final Pattern ANSWERED = Pattern.compile("(\\s*)(x\\.\\w+\\(.*?\\)); +// (-?[0-9]+|[A-Z]+)(:.*|;.*)?");
    private static final Pattern CALLED = Pattern.compile("\\s*x\\.\\w+\\(.*");
    private static final Pattern TABLE_ROW = Pattern.compile("\\| `(\\w+)\\((.*?)\\)` \\|.*\\|([A-Z, ]*)\\|");

    private static int wrong = 0;
    private static int answers = 0;

    private static void holds(String what, boolean is) {
        if (!is) {
            wrong++;
            System.out.println("not so: " + what);
        }
    }

    /** Called by the examples, once they are compiled. */
    public static void due(String row, int got, int want) {
        answers++;
        holds(row.trim() + " (it answers " + got + ")", got == want);
    }

    /** All examples one behind the other, each told answer turned into a question. */
    private static String exampleSource(List<String> lines) {
        StringBuilder source = new StringBuilder("public final class Example {\n    public static void run() {\n");
        boolean inside = false;
        for (String line : lines) {
            if (line.startsWith("```")) {
                inside = line.equals("```java");
            } else if (inside) {
                source.append(exampleLine(line)).append('\n');
            }
        }
        return source.append("    }\n}\n").toString();
    }

    private static String exampleLine(String line) {
        Matcher m = ANSWERED.matcher(line);
        if (!m.matches()) {
            // only the feeding of the text goes without an answer
            holds("an answer stands behind " + line, !CALLED.matcher(line).matches() || line.startsWith("    x.feed("));
            return line;
        }
        String want = Character.isLetter(m.group(3).charAt(0)) ? "CastOffs." + m.group(3) : m.group(3);
        return m.group(1) + "ReadmeTest.due(\"" + line.replace("\"", "'") + "\", " + m.group(2) + ", " + want + ");";
    }

    private static void examples(List<String> lines) throws IOException {
        Path folder = Files.createTempDirectory("readme");
        Path file = folder.resolve("Example.java");
        try {
            Files.writeString(file, exampleSource(lines));
            JavaCompiler compiler = ToolProvider.getSystemJavaCompiler();
            String classes = System.getProperty("java.class.path");
            int code = compiler.run(null, null, null, "-cp", classes, "-d", folder.toString(), file.toString());
            holds("the examples can be compiled", code == 0);
            if (code == 0) {
                runExample(folder);
            }
            holds("the examples tell some answers: " + answers, answers >= 28);
        } finally {
            Files.deleteIfExists(folder.resolve("Example.class"));
            Files.deleteIfExists(file);
            Files.deleteIfExists(folder);
        }
    }

    private static void runExample(Path folder) throws IOException {
        URL[] where = {folder.toUri().toURL()};
        try (URLClassLoader loader = new URLClassLoader(where, ReadmeTest.class.getClassLoader())) {
            loader.loadClass("Example").getMethod("run").invoke(null);
        } catch (ClassNotFoundException | NoSuchMethodException | IllegalAccessException | InvocationTargetException e) {
            holds("the examples can be run: " + e, false);
        }
    }

    private static Set<String> refusalsIn(String text) {
        Set<String> found = new TreeSet<>();
        Matcher m = Pattern.compile("\\b(UNKNOWN|OUTSIDE|NOT|FULL)\\b").matcher(text);
        while (m.find()) {
            found.add(m.group());
        }
        return found;
    }

    /** Of each promise but the first the refusals that the document names. */
    private static Map<String, Set<String>> refusalsDue() throws IOException {
        Map<String, Set<String>> due = new TreeMap<>();
        String[] sections = Files.readString(DOCUMENT).split("\n## ");
        for (String section : sections) {
            Matcher m = Pattern.compile("Promise \\d+: (\\w+)\n(.*)", Pattern.DOTALL).matcher(section);
            if (m.matches()) {
                due.put(m.group(1), refusalsIn(m.group(2)));
            }
        }
        return due;
    }

    private static void tables(List<String> lines) throws IOException {
        Map<String, Set<String>> due = refusalsDue();
        Map<String, Integer> parameters = new TreeMap<>();
        for (Method m : CastOffs.class.getDeclaredMethods()) {
            if (Modifier.isPublic(m.getModifiers())) {
                parameters.put(m.getName(), m.getParameterCount());
            }
        }
        Set<String> told = new TreeSet<>();
        for (String line : lines) {
            Matcher m = TABLE_ROW.matcher(line);
            if (m.matches()) {
                String call = m.group(1);
                int count = m.group(2).isEmpty() ? 0 : m.group(2).split(",").length;
                holds(call + " is told once", told.add(call));
                holds(call + " is a call with " + count, parameters.getOrDefault(call, -1) == count);
                holds(call + " is refused with " + due.get(call), refusalsIn(m.group(3)).equals(due.get(call)));
            }
        }
        holds("all calls are told: " + told, told.equals(parameters.keySet()));
    }

    private static void constants(String readme) {
        Map<String, Integer> due = Map.of("UNKNOWN", CastOffs.UNKNOWN, "OUTSIDE", CastOffs.OUTSIDE, "NOT", CastOffs.NOT, "FULL", CastOffs.FULL);
        due.forEach((name, number) -> holds(name + " is " + number, readme.contains("| `" + name + "` | " + number + " |")));
        holds("NONE is told", readme.contains("`NONE` (" + CastOffs.NONE + ")"));
    }

    /** Every test that there is stands in the list of tests, and no other. */
    private static void testNames(String readme) throws IOException {
        Set<String> found = new TreeSet<>();
        try (var files = Files.newDirectoryStream(Path.of("src/test/java"), "*.java")) {
            files.forEach(f -> found.add(f.getFileName().toString().replace(".java", "")));
        }
        Set<String> told = new TreeSet<>();
        Matcher m = Pattern.compile("`(\\w+Test)`").matcher(readme);
        while (m.find()) {
            told.add(m.group(1));
        }
        holds("the tests are " + found, told.equals(found));
    }

    public static void main(String[] args) throws IOException {
        List<String> lines = Files.readAllLines(README);
        String readme = Files.readString(README);
        examples(lines);
        tables(lines);
        constants(readme);
        testNames(readme);
        System.out.println(answers + " answers of README.md: " + (wrong == 0 ? "all is as it says" : wrong + " things are not so"));
        if (wrong != 0) {
            System.exit(1);
        }
    }
}
