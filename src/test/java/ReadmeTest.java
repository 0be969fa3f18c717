import java.io.IOException;
import java.lang.reflect.Method;
import java.lang.reflect.Modifier;
import java.net.URL;
import java.net.URLClassLoader;
import java.nio.file.Files;
import java.nio.file.Path;
import java.util.ArrayList;
import java.util.List;
import java.util.Map;
import java.util.Set;
import java.util.TreeMap;
import java.util.TreeSet;
import java.util.regex.Matcher;
import java.util.regex.Pattern;
import javax.tools.JavaCompiler;
import javax.tools.ToolProvider;

/**
 * Runs the calls that README.md shows, as it shows them, and looks whether they answer what it says of them; and whether
 * it shows each call of the class, with an answer, and with just the refusals that its tables name.
 */
public final class ReadmeTest {
    private static final Check CHECK = new Check("ReadmeTest");
    private static final Set<String> REFUSALS = Set.of("UNKNOWN", "OUTSIDE", "NOT", "FULL");

    /** A call and, behind it, its answer: the text of the call, its name, the answer, what is said of it. */
    private static final Pattern SHOWN = Pattern.compile("(x\\.(\\w+)\\(.*\\)); +// (-?\\d+|[A-Z]+)(: .+)?");
    private static final Pattern UNANSWERED = Pattern.compile("(FarEnds )?x = new FarEnds\\(\\);|for \\(.*\\) x\\.\\w+\\(.*\\);");

    /** A row of a table: the call's name, its arguments, its refusals. */
    private static final Pattern ROW = Pattern.compile("\\| `(\\w+)\\(([^)]*)\\)` \\| .+ \\| ([A-Z, ]+|-) \\|");

    public static void main(String[] args) throws IOException, ReflectiveOperationException {
        List<String> lines = Files.readAllLines(Path.of("README.md"));
        List<String> code = codeOf(lines);
        eachCallIsAnswered(code);
        eachOfTheFaceIsShown(lines, code);
        run(code);
        CHECK.end();
    }

    /** Called by the class made of README.md, whose loader is another one: so it must be public. */
    public static void due(String call, int got, int want) {
        CHECK.due("README.md: " + call, got, want);
    }

    private static List<String> codeOf(List<String> lines) {
        List<String> code = new ArrayList<>();
        boolean isCode = false;
        for (String line : lines) {
            if (line.startsWith("```")) {
                isCode = line.equals("```java");
            } else if (isCode) {
                code.add(line);
            }
        }
        return code;
    }

    // ---- what is shown

    private static void eachCallIsAnswered(List<String> code) {
        for (String line : code) {
            boolean isFine = SHOWN.matcher(line).matches() || UNANSWERED.matcher(line).matches();
            CHECK.holds("README.md shows a call with its answer: " + line, isFine);
        }
    }

    private static void eachOfTheFaceIsShown(List<String> lines, List<String> code) {
        Map<String, Set<String>> shown = answersShown(code);
        Map<String, Set<String>> told = refusalsTold(lines);
        for (Method m : FarEnds.class.getDeclaredMethods()) {
            if (!Modifier.isPublic(m.getModifiers())) {
                continue;
            }
            String name = m.getName();
            Set<String> answers = new TreeSet<>(shown.getOrDefault(name, Set.of()));
            Set<String> refusals = new TreeSet<>(answers);
            refusals.retainAll(REFUSALS);
            answers.removeAll(REFUSALS);
            CHECK.holds("README.md shows an answer of " + name + "()", !answers.isEmpty());
            CHECK.holds("README.md has a row for " + name + "() with what it shows refused, " + refusals,
                refusals.equals(told.get(name + " " + m.getParameterCount())));
        }
    }

    private static Map<String, Set<String>> answersShown(List<String> code) {
        Map<String, Set<String>> shown = new TreeMap<>();
        for (String line : code) {
            Matcher m = SHOWN.matcher(line);
            if (m.matches()) {
                shown.computeIfAbsent(m.group(2), name -> new TreeSet<>()).add(m.group(3));
            }
        }
        return shown;
    }

    /** By the name of a call and how many arguments it has. */
    private static Map<String, Set<String>> refusalsTold(List<String> lines) {
        Map<String, Set<String>> told = new TreeMap<>();
        for (String line : lines) {
            Matcher m = ROW.matcher(line);
            if (m.matches()) {
                int arguments = m.group(2).isEmpty() ? 0 : m.group(2).split(", ").length;
                Set<String> refusals = m.group(3).equals("-") ? Set.of() : Set.of(m.group(3).split(", "));
                told.put(m.group(1) + " " + arguments, refusals);
            }
        }
        return told;
    }

    // ---- what it answers

    private static void run(List<String> code) throws IOException, ReflectiveOperationException {
        Path folder = Files.createTempDirectory("readme");
        Path source = folder.resolve("ReadmeCalls.java");
        Files.writeString(source, sourceOf(code));
        JavaCompiler compiler = ToolProvider.getSystemJavaCompiler();
        String path = System.getProperty("java.class.path");
        int status = compiler.run(null, null, null, "-proc:none", "-cp", path, "-d", folder.toString(), source.toString());
        CHECK.due("what README.md shows compiles", status, 0);
        if (status == 0) {
            callIn(folder);
        }
        Files.deleteIfExists(folder.resolve("ReadmeCalls.class"));
        Files.delete(source);
        Files.delete(folder);
    }

    private static void callIn(Path folder) throws IOException, ReflectiveOperationException {
        try (URLClassLoader loader = new URLClassLoader(new URL[] {folder.toUri().toURL()})) {
            loader.loadClass("ReadmeCalls").getMethod("run").invoke(null);
        }
    }

    private static String sourceOf(List<String> code) {
        StringBuilder source = new StringBuilder("public final class ReadmeCalls {\n    public static void run() {\n");
        for (String line : code) {
            Matcher m = SHOWN.matcher(line);
            source.append("        ").append(m.matches() ? dueLine(m) : line).append('\n');
        }
        return source.append("    }\n}\n").toString();
    }

    private static String dueLine(Matcher m) {
        String answer = m.group(3);
        String want = Character.isLetter(answer.charAt(0)) ? "FarEnds." + answer : answer;
        return "ReadmeTest.due(\"" + m.group(1) + "\", " + m.group(1) + ", " + want + ");";
    }
}
