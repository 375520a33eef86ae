import java.nio.file.Files;
import java.nio.file.Path;
import java.util.List;
import java.util.regex.Matcher;
import java.util.regex.Pattern;

/** Rules of LANGUAGE.md that can be seen in the text of the class. */
public final class LanguageTest {
    private static final Path FILE = Path.of("src/main/java/SecretForces.java");
    private static final int LONGEST = 60;
    /** Words and signs that the class does without. */
    private static final List<String> RULED_OUT = List.of(
        "->", "::", "\\bfinally\\b", "\\btry\\b", "\\bcatch\\b", "\\bsynchronized\\b", "\\bassert\\b", "\\binstanceof\\b",
        "\\bpackage\\b", "\\bprotected\\b", "\\bdouble\\b", "\\bfloat\\b", "Exact\\b", "\\bThread\\b", "\\bRandom\\b",
        "System\\.(?!arraycopy)", "\\bstatic \\{", "@Override", "\\[\\]\\[\\]\\[\\]", "boolean\\[\\]\\[\\]",
        "\\bvar\\b");

    private LanguageTest() {
    }

    public static void main(String[] args) throws Exception {
        String text = Files.readString(FILE);
        String code = text.replaceAll("(?s)/\\*.*?\\*/", "").replaceAll("//[^\n]*", "");
        for (String out : RULED_OUT) {
            Due.holds("without " + out, !Pattern.compile(out).matcher(code).find());
        }
        imports(code);
        calls(code);
        throwsOf(code);
        staticFields(code);
        lengths(text);
        Due.holds("signs below 128 alone", text.chars().allMatch(c -> c < 128));
        Due.end("LanguageTest");
    }

    private static void imports(String code) {
        Matcher m = Pattern.compile("import ([^;]+);").matcher(code);
        while (m.find()) {
            Due.same("import", m.group(1), "java.util.NoSuchElementException");
        }
    }

    private static void calls(String code) {
        Matcher m = Pattern.compile("\\b(Math|Integer|Long|Arrays|String|List|Character)\\.(\\w+)").matcher(code);
        while (m.find()) {
            Due.holds(m.group() + " stands in rule 4", m.group().matches("Math\\.(max|min|abs)"));
        }
    }

    private static void throwsOf(String code) {
        Matcher m = Pattern.compile("\\bthrow\\b[^;]*;").matcher(code);
        while (m.find()) {
            Due.same("throw", m.group(), "throw new NoSuchElementException(\"no such split\");");
        }
    }

    private static void staticFields(String code) {
        Matcher m = Pattern.compile("(?m)^.*\\bstatic\\b[^(){\n]*[=;].*$").matcher(code);
        while (m.find()) {
            Due.holds("static and final: " + m.group().trim(), m.group().matches(".*static final int [A-Z_]+ = .*"));
        }
    }

    /** A method ends with the first line of a brace alone that stands as deep as its head. */
    private static void lengths(String text) {
        String[] lines = text.split("\n");
        int methods = 0;
        for (int i = 0; i < lines.length; i++) {
            Matcher head = Pattern.compile("( {4}| {8})(?! )[^=;]*\\) .*\\{|( {4}| {8})(?! )[^=;]*\\) \\{").matcher(lines[i]);
            if (!head.matches() || lines[i].contains("} else") || lines[i].trim().startsWith("for") || lines[i].trim().startsWith("if")) {
                continue;
            }
            String end = lines[i].replaceAll("\\S.*", "") + "}";
            int j = i;
            while (j < lines.length && !lines[j].equals(end)) {
                j++;
            }
            methods++;
            Due.holds(lines[i].trim() + " has at most " + LONGEST + " lines", j - i < LONGEST);
        }
        Due.holds("methods are found", methods > 60);
        for (String line : lines) {
            Due.holds("a line is not too long: " + line, line.length() <= 120);
        }
    }
}
