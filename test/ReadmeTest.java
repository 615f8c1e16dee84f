import java.io.File;
import java.io.IOException;
import java.lang.reflect.Method;
import java.lang.reflect.Modifier;
import java.net.URL;
import java.net.URLClassLoader;
import java.nio.file.Files;
import java.nio.file.Path;
import java.util.ArrayList;
import java.util.Comparator;
import java.util.List;
import java.util.Set;
import java.util.TreeSet;
import java.util.concurrent.Callable;
import java.util.regex.Matcher;
import java.util.regex.Pattern;
import java.util.stream.Stream;

/** README.md: its Java is compiled, each of its calls is made, and is held to the answer that stands behind it. */
public final class ReadmeTest {
    private static final Path README = Path.of("README.md");
    private static final Path TESTS = Path.of("test");
    private static final String NEW_OBJECT = "KeepingHands x = new KeepingHands();";
    private static final Pattern CALL = Pattern.compile("(\\S.*\\));\\s*// (-?\\d+|true|false|throws \\w+)(: .*)?");
    private static final int FEWEST_CALLS = 80;

    private final List<String> run = new ArrayList<>();
    private final List<String> functions = new ArrayList<>();
    private final List<Matcher> shown = new ArrayList<>();

    public static void main(String[] args) throws Exception {
        ReadmeTest test = new ReadmeTest();
        test.read();
        test.shownCalls();
        test.wholeFace();
        listedTests();
        test.makeRun();
        Check.end();
    }

    private void read() throws IOException {
        List<String> block = null;
        for (String line : Files.readAllLines(README)) {
            if (line.equals("```java")) {
                block = new ArrayList<>();
            } else if (line.equals("```") && block != null) {
                boolean isFunction = block.stream().anyMatch(l -> l.startsWith("static "));
                (isFunction ? functions : run).addAll(block);
                block = null;
            } else if (block != null) {
                block.add(line);
            }
        }
    }

    private void shownCalls() {
        need("the first line makes the object", !run.isEmpty() && run.get(0).equals(NEW_OBJECT));
        for (String line : run.subList(1, run.size())) {
            Matcher call = CALL.matcher(line);
            boolean isCall = call.matches();
            need("a call and its answer: " + line, isCall);
            if (isCall) {
                shown.add(call);
            }
        }
        need("a run of calls is shown", shown.size() >= FEWEST_CALLS);
    }

    /** No method of the face is missing in the run. */
    private void wholeFace() {
        String all = String.join("\n", run);
        for (Method m : KeepingHands.class.getDeclaredMethods()) {
            boolean isPublic = Modifier.isPublic(m.getModifiers());
            need("the run shows " + m.getName(), !isPublic || all.contains("x." + m.getName() + "("));
        }
    }

    /** The page names just the tests that there are. */
    private static void listedTests() throws IOException {
        Set<String> named = new TreeSet<>();
        Matcher m = Pattern.compile("`(\\w+Test)`").matcher(Files.readString(README));
        while (m.find()) {
            named.add(m.group(1));
        }
        Set<String> there = new TreeSet<>();
        for (File file : TESTS.toFile().listFiles()) {
            if (file.getName().endsWith("Test.java")) {
                there.add(file.getName().replace(".java", ""));
            }
        }
        need("tests named are " + named + ", there are " + there, named.equals(there));
    }

    private void makeRun() throws Exception {
        Path folder = Files.createTempDirectory("readme");
        Path source = folder.resolve("ReadmeRun.java");
        Files.write(source, compiledLines());
        String path = System.getProperty("java.class.path");
        int failed = new ProcessBuilder("javac", "-cp", path, "-d", folder.toString(), source.toString())
            .inheritIO().start().waitFor();
        need("the Java on the page compiles", failed == 0);
        if (failed == 0) {
            makeCalls(folder);
        }
        try (Stream<Path> files = Files.walk(folder)) {
            files.sorted(Comparator.reverseOrder()).forEach(file -> file.toFile().delete());
        }
    }

    private void makeCalls(Path folder) throws Exception {
        try (URLClassLoader loader = new URLClassLoader(new URL[] {folder.toUri().toURL()})) {
            Object[] calls = (Object[]) loader.loadClass("ReadmeRun").getMethod("calls").invoke(null);
            for (int i = 0; i < calls.length; i++) {
                hold(shown.get(i), (Callable<?>) calls[i]);
            }
        }
    }

    /** A class with the functions of the page, and its calls, one by one, on one object. */
    private List<String> compiledLines() {
        List<String> all = new ArrayList<>(List.of("public final class ReadmeRun {"));
        all.addAll(functions);
        all.add("public static Object[] calls() {");
        all.add(NEW_OBJECT);
        all.add("return new java.util.concurrent.Callable<?>[] {");
        for (Matcher line : shown) {
            all.add("() -> " + line.group(1) + ",");
        }
        all.add("};}}");
        return all;
    }

    private static void hold(Matcher line, Callable<?> call) {
        String got;
        try {
            got = String.valueOf(call.call());
        } catch (Exception e) {
            got = "throws " + e.getClass().getSimpleName();
        }
        need(line.group(1) + " answered " + got + ", not " + line.group(2), got.equals(line.group(2)));
    }

    private static void need(String what, boolean holds) {
        Check.dueIf("README: " + what, true, () -> holds);
    }
}
