import java.io.IOException;
import java.lang.reflect.Constructor;
import java.lang.reflect.Field;
import java.lang.reflect.Member;
import java.lang.reflect.Method;
import java.lang.reflect.Modifier;
import java.nio.file.Files;
import java.nio.file.Path;
import java.util.ArrayList;
import java.util.Arrays;
import java.util.List;
import java.util.TreeSet;
import java.util.regex.Matcher;
import java.util.regex.Pattern;
import java.util.stream.Collectors;

/** The public face of the document, and nothing else that can be seen from outside. */
public final class FaceTest {
    private static final Path DOCUMENT = Path.of("../shared/DOC.md");
    private static final Path CLASS = Path.of("src/main/java/SecretForces.java");
    private static final Pattern METHOD = Pattern.compile("    public (\\w+) (\\w+)\\(([^)]*)\\)(?: throws (\\w+))?;");
    private static final Pattern HEAD = Pattern.compile("(?m)^Ahead of the calls (.*) the interface says: (---- .*)\\.$");

    private FaceTest() {
    }

    /** As the document writes it, without names of parameters. */
    private static String told(Method m) {
        String of = Arrays.stream(m.getParameterTypes()).map(Class::getName).collect(Collectors.joining(","));
        String thrown = Arrays.stream(m.getExceptionTypes()).map(Class::getSimpleName).collect(Collectors.joining(","));
        return m.getReturnType().getName() + " " + m.getName() + "(" + of + ")" + thrown;
    }

    private static String faceOf(String document) {
        return document.split("\n## The public face\n")[1].split("```java\n")[1].split("```")[0];
    }

    private static TreeSet<String> methodsOf(String face) {
        TreeSet<String> found = new TreeSet<>();
        Matcher m = METHOD.matcher(face);
        while (m.find()) {
            String of = m.group(3).replaceAll(" \\w+(, |$)", "$1").replace(" ", "");
            found.add(m.group(1) + " " + m.group(2) + "(" + of + ")" + (m.group(4) == null ? "" : m.group(4)));
        }
        return found;
    }

    /** Each line of the face stands in the class as it is, names of parameters too. */
    private static void asWritten(String face, String code) {
        for (String line : face.split("\n")) {
            if (line.endsWith(");") || line.endsWith("Exception;") && line.startsWith(" ")) {
                String head = line.substring(0, line.length() - 1) + " {\n";
                Due.holds("the class has: " + line.trim(), code.contains("\n" + head));
            } else if (line.length() > 1) {
                Due.holds("the class has: " + line.trim(), code.contains(line + "\n"));
            }
        }
    }

    /** Calls stand behind the words that the interface says ahead of them, and before the next such words. */
    private static void heads(String document, String code) {
        Matcher m = HEAD.matcher(document);
        int found = 0;
        while (m.find()) {
            found++;
            String[] parts = code.split("(?m)^    // " + m.group(2) + "$");
            Due.is("ahead of calls: " + m.group(2), parts.length, 2);
            String under = parts[parts.length - 1].split("    // ---- ")[0];
            List<String> calls = new ArrayList<>();
            Matcher call = Pattern.compile("(?m)^    public \\w+ (\\w+)\\(").matcher(under);
            while (call.find()) {
                calls.add("`" + call.group(1) + "`");
            }
            Due.same("behind " + m.group(2), String.join(", ", calls), m.group(1));
        }
        Due.is("such words", found, 5);
    }

    private static void isPrivate(Member m) {
        Due.holds(m + " is private", Modifier.isPrivate(m.getModifiers()));
    }

    public static void main(String[] args) throws IOException {
        Class<?> c = SecretForces.class;
        String document = Files.readString(DOCUMENT);
        String face = faceOf(document);
        String code = Files.readString(CLASS);
        asWritten(face, code);
        heads(document, code);
        Due.holds("public and final", Modifier.isPublic(c.getModifiers()) && Modifier.isFinal(c.getModifiers()));
        TreeSet<String> names = methods(c, face);
        fields(c);
        Constructor<?>[] made = c.getDeclaredConstructors();
        Due.holds("one public constructor without arguments",
            made.length == 1 && made[0].getParameterCount() == 0 && Modifier.isPublic(made[0].getModifiers()));
        inside(c, names);
        Due.end("FaceTest");
    }

    /** The names of the face. */
    private static TreeSet<String> methods(Class<?> c, String face) {
        TreeSet<String> found = new TreeSet<>();
        TreeSet<String> names = new TreeSet<>();
        for (Method m : c.getDeclaredMethods()) {
            if (Modifier.isPublic(m.getModifiers())) {
                found.add(told(m));
                names.add(m.getName());
                Due.holds(m + " is no static one", !Modifier.isStatic(m.getModifiers()));
            } else if (!m.isSynthetic()) {
                isPrivate(m);
            }
        }
        Due.same("the methods", found.toString(), methodsOf(face).toString());
        Due.is("how many methods", found.size(), 40);
        return names;
    }

    private static void fields(Class<?> c) {
        for (Field f : c.getDeclaredFields()) {
            if (!f.getName().equals("NONE")) {
                isPrivate(f);
            } else {
                Due.same("NONE", Modifier.toString(f.getModifiers()) + " " + f.getType(), "public static final int");
            }
        }
    }

    private static void inside(Class<?> c, TreeSet<String> names) {
        Due.holds("at most twelve classes", c.getDeclaredClasses().length < 12);
        for (Class<?> d : c.getDeclaredClasses()) {
            int seen = d.getModifiers();
            Due.holds(d + " is static, not seen", Modifier.isStatic(seen) && !Modifier.isPublic(seen) && !Modifier.isProtected(seen));
            long fields = Arrays.stream(d.getDeclaredFields()).filter(f -> !Modifier.isStatic(f.getModifiers())).count();
            Due.holds(d + " has at most twenty fields", fields <= 20);
            for (Method m : d.getDeclaredMethods()) {
                Due.holds(m + " bears no name of the face", !names.contains(m.getName()));
            }
        }
        for (Method m : c.getDeclaredMethods()) {
            if (Modifier.isPrivate(m.getModifiers())) {
                Due.holds(m + " bears no name of the face", !names.contains(m.getName()));
            }
            Due.holds(m + " has at most seven parameters", m.getParameterCount() <= 7);
        }
    }
}
