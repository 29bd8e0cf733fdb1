import java.io.ByteArrayOutputStream;
import java.io.IOException;
import java.io.PrintStream;
import java.lang.reflect.Method;
import java.lang.reflect.Modifier;
import java.lang.reflect.Parameter;
import java.net.URL;
import java.net.URLClassLoader;
import java.nio.charset.StandardCharsets;
import java.nio.file.Files;
import java.nio.file.Path;
import java.util.ArrayList;
import java.util.List;
import java.util.Map;
import java.util.regex.Matcher;
import java.util.regex.Pattern;
import javax.tools.ToolProvider;

/** What README.md shows is so: its program and examples are compiled and run, and its lists are looked through. */
public final class ReadmeTest {
    private static final Check CHECK = new Check();
    private static final Map<String, Long> FINDINGS = Map.of(
        "BEYOND", (long) Check.BEYOND, "FULL", (long) Check.FULL, "KIND", (long) Check.KIND, "NONE", (long) Check.NONE,
        "STATE", (long) Check.STATE, "MISSING", (long) Check.MISSING, "SIZE", (long) Check.SIZE);
    private static final Pattern SHOWN = Pattern.compile("(?:int (\\w+) = )?(x\\.\\w+\\(.*\\)); *// (-?\\d+|[A-Z]+)(:.*)?");

    private final String page;
    private final Path out;

    private ReadmeTest(String page, Path out) {
        this.page = page;
        this.out = out;
    }

    public static void main(String[] args) throws IOException, ReflectiveOperationException {
        Path out = Files.createTempDirectory("readme");
        ReadmeTest test = new ReadmeTest(Files.readString(Path.of("README.md")), out);
        test.program();
        test.examples();
        test.findings();
        test.calls();
        for (String name : List.of("Visit", "Shown")) {
            Files.deleteIfExists(out.resolve(name + ".java"));
            Files.deleteIfExists(out.resolve(name + ".class"));
        }
        Files.delete(out);
        CHECK.end();
    }

    private void program() throws IOException, ReflectiveOperationException {
        Class<?> visit = compiled("Visit", blocks("java").get(0));
        PrintStream before = System.out;
        ByteArrayOutputStream printed = new ByteArrayOutputStream();
        System.setOut(new PrintStream(printed, true, StandardCharsets.US_ASCII));
        try {
            visit.getMethod("main", String[].class).invoke(null, (Object) new String[0]);
        } finally {
            System.setOut(before);
        }
        String got = printed.toString(StandardCharsets.US_ASCII).replace(System.lineSeparator(), "\n");
        CHECK.holds("the program prints\n" + got, got.equals(blocks("text").get(0)));
    }

    /** The examples are one run: each line goes into a method that collects the answers in their order. */
    private void examples() throws IOException, ReflectiveOperationException {
        List<String> calls = new ArrayList<>();
        List<Long> want = new ArrayList<>();
        StringBuilder source = new StringBuilder("public final class Shown { public static java.util.List<Long> answers() {\n"
            + "java.util.List<Long> all = new java.util.ArrayList<>();\n");
        List<String> blocks = blocks("java");
        for (String line : String.join("", blocks.subList(1, blocks.size())).split("\n")) {
            Matcher shown = SHOWN.matcher(line);
            if (!shown.matches()) {
                CHECK.holds("no answer is shown: " + line, line.equals("HandleLoans x = new HandleLoans();"));
                source.append(line).append("\n");
                continue;
            }
            calls.add(line);
            want.add(FINDINGS.containsKey(shown.group(3)) ? FINDINGS.get(shown.group(3)) : Long.parseLong(shown.group(3)));
            String name = shown.group(1);
            source.append(name == null ? "" : "int " + name + " = " + shown.group(2) + ";\n");
            source.append("all.add((long) ").append(name == null ? shown.group(2) : name).append(");\n");
        }
        source.append("return all; } }\n");
        List<?> got = (List<?>) compiled("Shown", source.toString()).getMethod("answers").invoke(null);
        CHECK.holds("each group of calls is shown", calls.size() > 50 && calls.size() <= 512);
        for (int i = 0; i < calls.size(); i++) {
            CHECK.due(calls.get(i), (Long) got.get(i), want.get(i));
        }
    }

    private void findings() {
        for (Map.Entry<String, Long> finding : FINDINGS.entrySet()) {
            String row = "| " + finding.getKey() + " | " + finding.getValue() + " | ";
            CHECK.holds(row, page.contains("\n" + row));
        }
    }

    private void calls() {
        int listed = 0;
        for (String line : page.split("\n")) {
            listed += line.matches("\\| `.*\\)` \\|.*") ? 1 : 0;
        }
        int due = 0;
        for (Method m : HandleLoans.class.getDeclaredMethods()) {
            if (Modifier.isPublic(m.getModifiers())) {
                due++;
                String told = "\\| `" + m.getReturnType() + " " + m.getName() + "\\(" + arguments(m) + "\\)` \\| .+ \\|";
                CHECK.holds("README lists " + m, Pattern.compile("(?m)^" + told).matcher(page).find());
            }
        }
        CHECK.due("calls that README lists", listed, due);
    }

    private static String arguments(Method m) {
        List<String> types = new ArrayList<>();
        for (Parameter p : m.getParameters()) {
            types.add(p.getType() + " \\w+");
        }
        return String.join(", ", types);
    }

    private List<String> blocks(String language) {
        List<String> found = new ArrayList<>();
        Matcher block = Pattern.compile("(?ms)^```" + language + "\n(.*?)^```$").matcher(page);
        while (block.find()) {
            found.add(block.group(1));
        }
        return found;
    }

    private Class<?> compiled(String name, String source) throws IOException, ReflectiveOperationException {
        Path file = Files.writeString(out.resolve(name + ".java"), source);
        int code = ToolProvider.getSystemJavaCompiler().run(null, null, null,
            "-cp", System.getProperty("java.class.path"), "-d", out.toString(), file.toString());
        CHECK.due("javac of README's " + name, code, 0);
        try (URLClassLoader loader = new URLClassLoader(new URL[] {out.toUri().toURL()})) {
            return loader.loadClass(name);
        }
    }
}
