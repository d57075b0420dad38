import java.io.IOException;
import java.lang.reflect.Method;
import java.lang.reflect.Modifier;
import java.net.URL;
import java.net.URLClassLoader;
import java.nio.file.Files;
import java.nio.file.Path;
import java.util.ArrayList;
import java.util.List;
import java.util.Set;
import java.util.TreeSet;
import java.util.regex.Matcher;
import java.util.regex.Pattern;
import javax.tools.JavaCompiler;
import javax.tools.ToolProvider;

/** README.md: its examples are compiled and asked, its tables held against the face and the document. */
public final class ReadmeTest {
    private static final Path PAGE = Path.of("README.md");
    private static final Path DOCUMENT = Path.of("../shared/DOC.md");
    private static final Path OUT = Path.of("build/readme");
    private static final Pattern EXAMPLE = Pattern.compile("(x\\.(\\w+)\\(.*\\)); +// (-?\\d+)(: .*)?");
    private static final Pattern ROW = Pattern.compile("\\| `((\\w+)\\([\\w, ]*\\))` \\|.*\\|([^|]*)\\|");
    private static final Pattern PROMISE = Pattern.compile("`(?:int|long) ((\\w+)\\([\\w, ]*\\))`: (.*)");
    private static final Pattern REFUSAL = Pattern.compile("\\b(UNKNOWN|BAD|LATE|FULL)\\b");

    private ReadmeTest() {
    }

    public static void main(String[] args) throws IOException, ReflectiveOperationException {
        List<String> page = Files.readAllLines(PAGE);
        examples(page);
        constants(page);
        calls(page, Files.readAllLines(DOCUMENT));
        Check.end();
    }

    private static void examples(List<String> page) throws IOException, ReflectiveOperationException {
        StringBuilder code = new StringBuilder();
        List<String> calls = new ArrayList<>();
        List<Long> due = new ArrayList<>();
        Set<String> shown = new TreeSet<>();
        boolean inside = false;
        boolean begun = false;
        for (String line : page) {
            if (line.startsWith("```")) {
                inside = line.equals("```java");
                continue;
            }
            if (!inside) {
                continue;
            }
            Matcher example = EXAMPLE.matcher(line);
            if (example.matches()) {
                code.append("a[").append(calls.size()).append("] = ").append(example.group(1)).append(";\n");
                calls.add(example.group(1));
                due.add(Long.valueOf(example.group(3)));
                shown.add(example.group(2));
            } else {
                Check.due("an example without an answer: " + line, line.startsWith("x.") ? 1 : 0, 0);
                boolean begins = line.contains("new FirstUmbrella()");
                code.append(begins && begun ? "}\n" : "").append(begins ? "{\n" : "").append(line).append('\n');
                begun = begun || begins;
            }
        }
        code.append("}\n");
        Check.due("calls with an example", shown.toString(), names().toString());
        long[] got = answers(code.toString(), calls.size());
        for (int i = 0; i < got.length; i++) {
            Check.due("README.md, example " + i + ", " + calls.get(i), got[i], due.get(i));
        }
    }

    /** What the examples answer, when they are compiled as they stand on the page. */
    private static long[] answers(String code, int count) throws IOException, ReflectiveOperationException {
        Files.createDirectories(OUT);
        Path file = OUT.resolve("Examples.java");
        String head = "public final class Examples {\npublic static long[] answers() {\nlong[] a = new long[" + count + "];\n";
        Files.writeString(file, head + code + "return a;\n}\n}\n");
        JavaCompiler compiler = ToolProvider.getSystemJavaCompiler();
        String path = System.getProperty("java.class.path");
        int failed = compiler.run(null, null, null, "-cp", path, "-d", OUT.toString(), file.toString());
        Check.due("the examples compile", failed, 0);
        if (failed != 0) {
            return new long[0];
        }
        try (URLClassLoader loader = new URLClassLoader(new URL[] {OUT.toUri().toURL()})) {
            return (long[]) loader.loadClass("Examples").getMethod("answers").invoke(null);
        }
    }

    private static Set<String> names() {
        Set<String> names = new TreeSet<>();
        for (Method method : FirstUmbrella.class.getDeclaredMethods()) {
            if (Modifier.isPublic(method.getModifiers())) {
                names.add(method.getName());
            }
        }
        return names;
    }

    private static void constants(List<String> page) throws ReflectiveOperationException {
        Set<String> told = new TreeSet<>();
        for (String line : page) {
            Matcher row = Pattern.compile("\\| (-\\d+) \\| `([A-Z]+)` \\|.*").matcher(line);
            if (row.matches()) {
                told.add(row.group(2));
                int value = FirstUmbrella.class.getField(row.group(2)).getInt(null);
                Check.due("the number of " + row.group(2), Integer.parseInt(row.group(1)), value);
            }
        }
        Check.due("constants told", told.toString(), "[BAD, FULL, LATE, NONE, UNKNOWN]");
    }

    /** A row for each call, with the refusals of its promise, in their order. */
    private static void calls(List<String> page, List<String> document) {
        Set<String> told = new TreeSet<>();
        for (String line : page) {
            Matcher row = ROW.matcher(line);
            if (row.matches()) {
                told.add(row.group(2));
                String promise = promise(row.group(2), row.group(1), document);
                Check.due("refusals of " + row.group(1), refusals(row.group(3)), refusals(promise));
                Check.due("NONE of " + row.group(1), row.group(3).contains("`NONE`") ? 1 : 0,
                    promise.contains("NONE") ? 1 : 0);
            }
        }
        Check.due("calls told", told.toString(), names().toString());
    }

    /** What the document says of a call; nothing, if it has another head there. */
    private static String promise(String name, String head, List<String> document) {
        for (String line : document) {
            Matcher promise = PROMISE.matcher(line);
            if (promise.matches() && promise.group(2).equals(name)) {
                Check.due("the head of " + name, head, promise.group(1).replaceAll("(int|long|boolean) ", ""));
                return promise.group(3);
            }
        }
        Check.due("a promise of " + name, 0, 1);
        return "";
    }

    private static String refusals(String text) {
        StringBuilder row = new StringBuilder();
        Matcher refusal = REFUSAL.matcher(text);
        while (refusal.find()) {
            row.append(refusal.group()).append(' ');
        }
        return row.toString();
    }
}
