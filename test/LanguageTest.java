import java.lang.reflect.Field;
import java.lang.reflect.Method;
import java.lang.reflect.Modifier;
import java.nio.file.Files;
import java.nio.file.Path;
import java.util.ArrayList;
import java.util.HashMap;
import java.util.HashSet;
import java.util.List;
import java.util.Map;
import java.util.Set;
import java.util.TreeSet;
import java.util.regex.Matcher;
import java.util.regex.Pattern;

/** LANGUAGE.md, rule by rule, as far as the file's lines and the compiled classes show it. */
public final class LanguageTest {
    private static final Path SOURCE = Path.of("src/main/java/KeepingHands.java");
    private static final Pattern HEAD = Pattern.compile("( {4}| {8})(?:[\\w\\[\\]]+ )*(\\w+)\\(.*\\).* \\{");
    private static final Pattern CALL = Pattern.compile("\\b(\\w+)\\(");
    private static final Set<Class<?>> CONSTANTS = Set.of(int.class, long.class, boolean.class, char.class, String.class);

    private final List<String> lines = new ArrayList<>();
    private final Map<String, Set<String>> calls = new HashMap<>();
    private int methods;

    public static void main(String[] args) throws Exception {
        LanguageTest test = new LanguageTest();
        for (String line : Files.readAllLines(SOURCE)) {
            test.lines.add(bare(line));
        }
        test.imports();
        test.words();
        test.thrown();
        test.library();
        test.methods();
        test.depth();
        test.classes();
        Check.end();
    }

    /** A line without its remark, and without what stands in its texts and signs. */
    private static String bare(String line) {
        String code = line.replaceAll("'\\\\?.'", "' '").replaceAll("\"[^\"]*\"", "\"\"");
        return code.trim().startsWith("*") || code.trim().startsWith("/*") ? "" : code.replaceAll("//.*", "");
    }

    private static void holds(String what, boolean is) {
        Check.dueIf(what, true, () -> is);
    }

    private void noneHas(String rule, String pattern) {
        Pattern sought = Pattern.compile(pattern);
        for (int i = 0; i < lines.size(); i++) {
            int at = i;
            holds(rule + ", line " + (i + 1) + ": " + lines.get(i), !sought.matcher(lines.get(at)).find());
        }
    }

    // "without a package line"; rule 4: "only what stands here", of which java.util's exception alone is used
    private void imports() {
        noneHas("no package", "^\\s*package\\b");
        noneHas("rule 4, imports", "^\\s*import\\b(?! java\\.util\\.NoSuchElementException;)");
        noneHas("rule 4, full names", "^(?!import).*\\bjavax?\\.");
    }

    // Rules 2, 5, 6, 9, 10: what is not to stand in the file at all
    private void words() {
        noneHas("rule 2, no lambda, no method reference", "->|::");
        noneHas("rule 5, no static initialiser block", "\\bstatic\\s*\\{");
        noneHas("rule 6", "\\b(synchronized|assert|finally|try|catch|volatile|transient|native|strictfp)\\b");
        noneHas("rule 6, no equals, hashCode, toString of its own", "\\b(equals|hashCode|toString)\\s*\\(");
        noneHas("rule 9, a loop without an end to be seen", "while \\(true\\)|for \\(;;|; ?; ");
        noneHas("rule 10, texts are not joined by +", "\"\\s*\\+|\\+\\s*\"");
        noneHas("rule 13", "\\b(Random|Thread|Runtime|currentTimeMillis|nanoTime|getenv|getProperty)\\b");
    }

    // Rule 6: "throw new E("a written text")", of the two that the document names
    private void thrown() {
        noneHas("rule 6, what is thrown",
            "\\bthrow\\b(?! new (IllegalArgumentException|NoSuchElementException)\\(\"\"\\);)");
    }

    // Rule 4: of Math, System and String what it lists
    private void library() {
        Set<String> own = new HashSet<>(Set.of("Math", "System"));
        for (Class<?> c : allClasses()) {
            own.add(c.getSimpleName());
        }
        Pattern qualified = Pattern.compile("\\b([A-Z]\\w*[a-z]\\w*)\\.(\\w+)");
        for (String line : lines) {
            Matcher m = qualified.matcher(line.startsWith("import") ? "" : line);
            while (m.find()) {
                String name = m.group();
                holds("rule 4: " + name, own.contains(m.group(1)));
                holds("rule 4: " + name, !name.startsWith("System.") || name.equals("System.arraycopy"));
                holds("rule 4: " + name, !name.startsWith("Math.") || name.matches("Math\\.(min|max|abs)"));
            }
        }
    }

    // Rule 11: "Methods stay short (some sixty lines)", "at most seven parameters"
    private void methods() {
        for (int i = 0; i < lines.size(); i++) {
            Matcher head = HEAD.matcher(lines.get(i));
            if (head.matches()) {
                int end = lines.subList(i, lines.size()).indexOf(head.group(1) + "}") + i;
                String name = head.group(2);
                int length = end - i + 1;
                holds("rule 11: " + name + " has " + length + " lines", length > 1 && length <= 60);
                calls.computeIfAbsent(name, n -> new HashSet<>()).addAll(callsIn(lines.subList(i + 1, end)));
                methods++;
            }
        }
    }

    private static Set<String> callsIn(List<String> body) {
        Set<String> called = new HashSet<>();
        for (String line : body) {
            Matcher m = CALL.matcher(line);
            while (m.find()) {
                called.add(m.group(1));
            }
        }
        return called;
    }

    // Rule 11: "calls that are no recursion go at most eight deep": methods that call one another count as one
    private void depth() {
        calls.values().forEach(called -> called.retainAll(calls.keySet()));
        for (String name : new TreeSet<>(calls.keySet())) {
            int deep = deepFrom(name, new HashMap<>());
            holds("rule 11: " + name + " goes " + deep + " deep", deep <= 8);
        }
    }

    private int deepFrom(String name, Map<String, Integer> known) {
        if (known.containsKey(name)) {
            return known.get(name);
        }
        Set<String> group = new HashSet<>(Set.of(name));
        for (String other : reachedFrom(name)) {
            if (reachedFrom(other).contains(name)) {
                group.add(other);
            }
        }
        int deepest = 0;
        for (String member : group) {
            for (String next : calls.get(member)) {
                if (!group.contains(next)) {
                    deepest = Math.max(deepest, deepFrom(next, known));
                }
            }
        }
        known.put(name, deepest + 1);
        return deepest + 1;
    }

    private Set<String> reachedFrom(String name) {
        Set<String> reached = new HashSet<>();
        List<String> waiting = new ArrayList<>(calls.get(name));
        while (!waiting.isEmpty()) {
            String next = waiting.remove(waiting.size() - 1);
            if (reached.add(next)) {
                waiting.addAll(calls.get(next));
            }
        }
        return reached;
    }

    private static List<Class<?>> allClasses() {
        List<Class<?>> all = new ArrayList<>(List.of(KeepingHands.class.getDeclaredClasses()));
        all.add(KeepingHands.class);
        return all;
    }

    // Rules 1, 2, 5, 11: classes, their fields and methods, as they were compiled
    private void classes() {
        List<Class<?>> all = allClasses();
        holds("rule 11: at most some twelve classes", all.size() <= 12);
        int declared = 0;
        for (Class<?> c : all) {
            int own = 0;
            for (Field f : c.getDeclaredFields()) {
                boolean isStatic = Modifier.isStatic(f.getModifiers());
                own += isStatic ? 0 : 1;
                holds("rule 5: " + f, !isStatic || Modifier.isFinal(f.getModifiers()) && CONSTANTS.contains(f.getType()));
            }
            holds("rule 11: some twenty fields of " + c, own <= 20);
            for (Method m : c.getDeclaredMethods()) {
                holds("rule 11: at most seven parameters of " + m, m.getParameterCount() <= 7);
                declared++;
            }
            boolean isInside = c != KeepingHands.class;
            holds("rule 1: " + c + " is static", !isInside || Modifier.isStatic(c.getModifiers()));
            holds("rule 1: " + c + " is not to be seen", !isInside || Modifier.isPrivate(c.getModifiers()));
        }
        int written = methods - constructorsWritten();
        int compiled = declared;
        Check.due("every method was looked at", compiled, () -> written);
    }

    private int constructorsWritten() {
        int some = 0;
        for (Class<?> c : allClasses()) {
            Pattern head = Pattern.compile(" {4,8}(public )?" + c.getSimpleName() + "\\(.*\\) \\{");
            some += (int) lines.stream().filter(line -> head.matcher(line).matches()).count();
        }
        return some;
    }
}
