import java.io.IOException;
import java.net.URL;
import java.net.URLClassLoader;
import java.nio.file.Files;
import java.nio.file.Path;
import java.util.ArrayList;
import java.util.List;
import java.util.Set;
import java.util.TreeSet;
import java.util.function.Supplier;
import java.util.regex.Matcher;
import java.util.regex.Pattern;
import java.util.stream.Collectors;
import java.util.stream.Stream;
import javax.tools.ToolProvider;

/** What README.md shows as an example does as it says, and it names each test there is. */
public final class ReadmeTest {
    private static final Path FILE = Path.of("README.md");
    private static final Path TESTS = Path.of("src/test/java");
    private static final Pattern BLOCK = Pattern.compile("(?s)```(java|text)\n(.*?)```");
    private static final Pattern ANSWER = Pattern.compile("(.*;) +// (-?[0-9]+)(: .*)?");
    private static final Pattern THROWN = Pattern.compile("(.*;) +// throws (\\w+)");
    private static final Pattern DECLARED = Pattern.compile("int (\\w+) = .*;", Pattern.DOTALL);
    /** Fewer would say that the examples are not read any more. */
    private static final int FEWEST_ANSWERS = 40;

    private ReadmeTest() {
    }

    public static void main(String[] args) throws Exception {
        String readme = Files.readString(FILE);
        List<String> statements = new ArrayList<>();
        List<String> members = new ArrayList<>();
        int texts = 0;
        Matcher m = BLOCK.matcher(readme);
        while (m.find()) {
            if (m.group(1).equals("text")) {
                texts++;
                String text = m.group(2);
                Due.holds("a text: " + text, Due.tell(new SecretForces(), text) > 0);
            } else if (m.group(2).startsWith("static ")) {
                members.add(m.group(2));
            } else {
                addStatements(m.group(2), statements);
            }
        }
        Due.holds("a text is shown", texts > 0);
        Due.holds("answers are shown", run(source(statements, members)) >= FEWEST_ANSWERS);
        namesTests(readme);
        Due.end("ReadmeTest");
    }

    /** A statement may stand on several lines; the last of them ends with ; or with what it answers. */
    private static void addStatements(String block, List<String> statements) {
        StringBuilder begun = new StringBuilder();
        for (String line : block.split("\n")) {
            Matcher answer = ANSWER.matcher(line);
            Matcher thrown = THROWN.matcher(line);
            if (answer.matches()) {
                statements.add(answering(begun + answer.group(1), answer.group(2)));
                begun.setLength(0);
            } else if (thrown.matches()) {
                statements.add(throwing(begun + thrown.group(1), thrown.group(2)));
                begun.setLength(0);
            } else if (line.endsWith(";")) {
                statements.add(begun + line);
                begun.setLength(0);
            } else {
                Due.holds("a line that can be read: " + line, !line.contains("//"));
                begun.append(line).append('\n');
            }
        }
        Due.same("a statement without an end", begun.toString().trim(), "");
    }

    private static String quoted(String code) {
        return "\"" + code.replace("\\", "\\\\").replace("\"", "\\\"").replace("\n", " ") + "\"";
    }

    /** The example only gathers answers: a class of another loader does not see Due. */
    private static String row(String code, String got, String due) {
        return "rows.add(new String[] {" + quoted(code) + ", String.valueOf(" + got + "), " + quoted(due) + "});";
    }

    private static String answering(String code, String due) {
        Matcher m = DECLARED.matcher(code);
        if (m.matches()) {
            return code + "\n" + row(code, m.group(1), due);
        }
        return row(code, code.substring(0, code.lastIndexOf(';')), due);
    }

    private static String throwing(String code, String due) {
        return "try { " + code + " " + row(code, "\"nothing thrown\"", due) + " }"
            + " catch (RuntimeException e) { " + row(code, "e.getClass().getSimpleName()", due) + " }";
    }

    private static String source(List<String> statements, List<String> members) {
        return "public final class Example implements java.util.function.Supplier<java.util.List<String[]>> {\n"
            + "public java.util.List<String[]> get() {\n"
            + "java.util.List<String[]> rows = new java.util.ArrayList<>();\n"
            + String.join("\n", statements) + "\nreturn rows;\n}\n" + String.join("\n", members) + "}\n";
    }

    private static int run(String source) throws Exception {
        Path room = Files.createTempDirectory("readme");
        Path file = room.resolve("Example.java");
        Files.writeString(file, source);
        int failed = ToolProvider.getSystemJavaCompiler().run(null, null, null,
            "-cp", System.getProperty("java.class.path"), "-d", room.toString(), file.toString());
        Due.is("the examples compile", failed, 0);
        int rows = failed == 0 ? compare(room) : 0;
        for (String left : List.of("Example.class", "Example.java", "")) {
            Files.deleteIfExists(room.resolve(left));
        }
        return rows;
    }

    private static int compare(Path room) throws Exception {
        try (URLClassLoader loader = new URLClassLoader(new URL[] {room.toUri().toURL()}, ReadmeTest.class.getClassLoader())) {
            Object example = loader.loadClass("Example").getConstructor().newInstance();
            List<?> rows = (List<?>) ((Supplier<?>) example).get();
            for (Object row : rows) {
                String[] told = (String[]) row;
                Due.same(told[0], told[1], told[2]);
            }
            return rows.size();
        }
    }

    private static void namesTests(String readme) throws IOException {
        Set<String> named = new TreeSet<>();
        Matcher m = Pattern.compile("(?m)^- `(\\w+)`").matcher(readme);
        while (m.find()) {
            named.add(m.group(1));
        }
        try (Stream<Path> files = Files.list(TESTS)) {
            Set<String> found = files.map(f -> f.getFileName().toString().replace(".java", ""))
                .filter(f -> f.endsWith("Test")).collect(Collectors.toCollection(TreeSet::new));
            Due.same("tests that are named", named.toString(), found.toString());
        }
    }
}
