import java.lang.reflect.Field;
import java.lang.reflect.Method;
import java.lang.reflect.Modifier;
import java.net.URL;
import java.net.URLClassLoader;
import java.nio.file.Files;
import java.nio.file.Path;
import java.util.ArrayList;
import java.util.List;
import java.util.Set;
import java.util.TreeSet;
import java.util.regex.Matcher;
import java.util.regex.Pattern;
import java.util.stream.Stream;
import javax.tools.ToolProvider;

/**
 * That README.md shows what the class answers: its run is compiled, and each answer behind a call compared; its tables of
 * calls, constants, FAULTS and printed texts are held against the class, its table of tests against the files.
 */
public final class ReadmeTest {
    private static final Path PAGE = Path.of("README.md"), TESTS = Path.of("src/test/java");
    private static final Pattern ROW = Pattern.compile("\\| `([^`]*)` \\|(.*)\\|");
    private static final Pattern CALL =
        Pattern.compile("((?:x\\.|printed\\().*\\));\\s*(?:// (\"[^\"]*\"|-?\\w+)(?:: .*)?)?");

    private ReadmeTest() {
    }

    public static void main(String[] args) throws Exception {
        List<String> page = Files.readAllLines(PAGE);
        run(page);
        calls(rows(section(page, "### The calls")));
        constants(rows(section(page, "### Refusals")));
        printed(rows(section(page, "### The texts")));
        faults(section(page, "### FAULTS"));
        tests(section(page, "## Tests"));
        Due.end();
    }

    private static void holds(String what, boolean yes) {
        Due.is("README: " + what, yes ? 1 : 0, 1);
    }

    /** The lines between a heading and the next. */
    private static List<String> section(List<String> page, String heading) {
        int from = page.indexOf(heading);
        holds("has " + heading, from >= 0);
        int to = from + 1;
        while (to < page.size() && !page.get(to).startsWith("#")) {
            to++;
        }
        return page.subList(from + 1, to);
    }

    /** Rows of tables: what stands in backquotes first, then the other columns. */
    private static List<String[]> rows(List<String> lines) {
        List<String[]> rows = new ArrayList<>();
        for (String line : lines) {
            Matcher m = ROW.matcher(line);
            if (m.matches()) {
                String[] others = m.group(2).split("\\|", -1);
                String[] row = new String[others.length + 1];
                row[0] = m.group(1);
                for (int i = 0; i < others.length; i++) {
                    row[i + 1] = others[i].trim();
                }
                rows.add(row);
            }
        }
        return rows;
    }

    // ---- the run

    /** Blocks that begin with a comment are helpers, all others together are one run. */
    private static void run(List<String> page) throws Exception {
        StringBuilder helpers = new StringBuilder();
        StringBuilder body = new StringBuilder();
        Set<String> shown = new TreeSet<>();
        for (int i = 0; i < page.size(); i++) {
            if (page.get(i).equals("```java")) {
                boolean helper = page.get(i + 1).startsWith("/**");
                for (i++; !page.get(i).equals("```"); i++) {
                    if (helper) {
                        helpers.append(page.get(i)).append('\n');
                    } else {
                        body.append(answered(page.get(i), shown)).append('\n');
                    }
                }
            }
        }
        for (Method method : publicCalls()) {
            holds("the run shows " + method.getName(), shown.contains(method.getName()));
        }
        List<String[]> answers = answersOf("public final class ReadmeRun {\n" + helpers
            + "public static void run(java.util.List<String[]> all) {\n" + body + "}\n}\n");
        holds("the run has answers", !answers.isEmpty());
        for (String[] answer : answers) {
            Due.text("README: " + answer[0], answer[1], answer[2]);
        }
    }

    /** A line of the run that keeps a call's text, its answer and the one that stands behind it. */
    private static String answered(String line, Set<String> shown) {
        Matcher m = CALL.matcher(line);
        if (!m.matches()) {
            holds("a line of the run is a new object, put() or a call: " + line,
                line.equals("RuleNet x = new RuleNet();") || line.matches("put\\(x, \"[^\"]*\"\\);"));
            return line;
        }
        String call = m.group(1);
        if (call.startsWith("x.")) {
            shown.add(call.substring(2, call.indexOf('(')));
        }
        holds("an answer stands behind " + line, m.group(2) != null);
        String due = m.group(2) != null ? m.group(2) : "null";
        due = due.matches("[A-Z]+") ? "RuleNet." + due : due;
        return "all.add(new String[] {\"" + line.replace("\"", "\\\"") + "\", \"\" + " + call + ", \"\" + " + due + "});";
    }

    private static List<String[]> answersOf(String program) throws Exception {
        Path work = Files.createTempDirectory("readme");
        Path source = work.resolve("ReadmeRun.java");
        Files.writeString(source, program);
        int failed = ToolProvider.getSystemJavaCompiler().run(null, null, null, "-cp",
            System.getProperty("java.class.path"), "-d", work.toString(), source.toString());
        Due.is("README: the run is compiled", failed, 0);
        List<String[]> all = new ArrayList<>();
        URL[] places = {work.toUri().toURL()};
        try (URLClassLoader loader = new URLClassLoader(places, ReadmeTest.class.getClassLoader())) {
            if (failed == 0) {
                loader.loadClass("ReadmeRun").getMethod("run", List.class).invoke(null, all);
            }
        }
        try (Stream<Path> files = Files.list(work)) {
            for (Path file : files.toList()) {
                Files.delete(file);
            }
        }
        Files.delete(work);
        return all;
    }

    // ---- the tables

    private static List<Method> publicCalls() {
        List<Method> calls = new ArrayList<>();
        for (Method method : RuleNet.class.getDeclaredMethods()) {
            if (Modifier.isPublic(method.getModifiers())) {
                calls.add(method);
            }
        }
        return calls;
    }

    private static String signature(Method method) {
        StringBuilder s = new StringBuilder();
        for (Class<?> type : method.getParameterTypes()) {
            s.append(s.length() == 0 ? "" : ", ").append(type);
        }
        return method.getReturnType() + " " + method.getName() + "(" + s + ")";
    }

    private static void calls(List<String[]> rows) {
        Set<String> due = new TreeSet<>(Set.of("RuleNet()"));
        for (Method method : publicCalls()) {
            due.add(signature(method));
        }
        Set<String> shown = new TreeSet<>();
        for (String[] row : rows) {
            // The names of parameters are not kept in the class, so the types alone can be compared.
            shown.add(row[0].replaceAll("(int|boolean) \\w+([,)])", "$1$2"));
            holds("refusals in the document's order, of " + row[0],
                row[2].matches("(UNKNOWN)?(, )?(OUTSIDE)?(, )?(STATE)?(, )?(FULL)?"));
        }
        Due.text("README: the calls", shown.toString(), due.toString());
        Due.is("README: each call once", rows.size(), due.size());
    }

    private static void constants(List<String[]> rows) throws IllegalAccessException {
        Set<String> due = new TreeSet<>();
        for (Field field : RuleNet.class.getDeclaredFields()) {
            if (Modifier.isPublic(field.getModifiers())) {
                due.add(field.getName() + " " + field.getInt(null));
            }
        }
        Set<String> shown = new TreeSet<>();
        for (String[] row : rows) {
            shown.add(row[0] + " " + row[1]);
        }
        Due.text("README: the constants", shown.toString(), due.toString());
    }

    /** As the run has it. */
    private static Probe asInTheRun() {
        Probe p = new Probe();
        p.x().kind(0);
        p.x().kind(1);
        p.x().head(0, 0, false);
        p.x().head(1, 1, false);
        p.x().head(2, 2, false);
        p.x().head(0, 2, true);
        return p;
    }

    private static void printed(List<String[]> rows) {
        holds("shows what is printed", !rows.isEmpty());
        for (String[] row : rows) {
            Probe p = asInTheRun().withPattern(0, row[0]);
            p.x().print(0);
            Due.text("README: printed " + row[0], "`" + p.out() + "`", row[1]);
        }
    }

    private static void faults(List<String> lines) {
        int trees = lines.indexOf("| text of a tree | answer | place |");
        holds("has a table of trees' FAULTS", trees >= 0);
        List<String[]> patternRows = rows(lines.subList(0, trees));
        List<String[]> treeRows = rows(lines.subList(trees, lines.size()));
        Set<String> shown = new TreeSet<>();
        for (String[] row : patternRows) {
            Probe p = asInTheRun();
            dueFault(row, p, p.pattern(0, row[0]));
            shown.add(row[1]);
        }
        for (String[] row : treeRows) {
            Probe p = asInTheRun();
            dueFault(row, p, p.tree(row[0]));
        }
        Due.text("README: each FAULT is shown", shown.toString(), "[-11, -12, -13, -14, -15, -16]");
        holds("shows FAULTS of trees", !treeRows.isEmpty());
    }

    private static void dueFault(String[] row, Probe p, int answer) {
        Due.text("README: " + row[0], String.valueOf(answer), row[1]);
        Due.text("README: place of " + row[0], String.valueOf(p.x().place()), row[2]);
    }

    // ---- the tests

    private static void tests(List<String> lines) throws Exception {
        Set<String> due = new TreeSet<>();
        try (Stream<Path> files = Files.list(TESTS)) {
            for (Path file : files.toList()) {
                String name = file.getFileName().toString();
                if (name.endsWith("Test.java")) {
                    due.add(name.substring(0, name.length() - 5));
                } else {
                    String shared = "`" + name.substring(0, name.length() - 5) + "`";
                    holds("names " + shared, String.join("\n", lines).contains(shared));
                }
            }
        }
        Set<String> shown = new TreeSet<>();
        for (String[] row : rows(lines)) {
            shown.add(row[0]);
        }
        Due.text("README: the tests", shown.toString(), due.toString());
        holds("how they are run", lines.contains("    .ci/run") && Files.isExecutable(Path.of(".ci/run")));
    }
}
