import java.lang.reflect.Constructor;
import java.lang.reflect.Field;
import java.lang.reflect.Member;
import java.lang.reflect.Method;
import java.lang.reflect.Modifier;
import java.util.Arrays;
import java.util.List;
import java.util.TreeSet;
import java.util.stream.Collectors;

/** The public face of the document, and nothing else that can be seen from outside. */
public final class FaceTest {
    private static final String FACE = """
        int feed(int,int,int,int,int)
        int text(int)
        int field(int)
        int lose()
        int forces(int,int)
        int ties(int)
        int splits(int)
        int split(int,int)
        int number(int,int)
        int gain(int,int)
        int shapes(int)
        int shape(int,int,int)
        long ways(int,int,int)
        int worse(int,int,boolean)
        int left(int,int)
        int rounds()
        int safe(int,int)
        int add(int,int)
        int shut(int)
        int book(int,int)
        int value(int)
        int best(int,int,int)
        int valueWith(int,int,int)
        int needless(int)
        int plan(int,int,int)
        int entry(int,int,int)
        int hold(int,int)
        int reply(int)
        int meet()
        int evenHold(int,int)
        int evenShare(int,int,int)
        int both(int)
        int mean(int,int,int)
        int state(int)
        int draw(int,boolean)
        int match(int)
        int note(int,int)
        int against(int,int)
        int apart(int,int)
        int count(int)
        """;

    private FaceTest() {
    }

    private static String told(Method m) {
        String of = Arrays.stream(m.getParameterTypes()).map(Class::getName).collect(Collectors.joining(","));
        return m.getReturnType().getName() + " " + m.getName() + "(" + of + ")";
    }

    private static void isPrivate(Member m) {
        Due.holds(m + " is private", Modifier.isPrivate(m.getModifiers()));
    }

    public static void main(String[] args) {
        Class<?> c = SecretForces.class;
        Due.holds("public and final", Modifier.isPublic(c.getModifiers()) && Modifier.isFinal(c.getModifiers()));
        TreeSet<String> face = new TreeSet<>(List.of(FACE.split("\n")));
        TreeSet<String> found = new TreeSet<>();
        TreeSet<String> names = new TreeSet<>();
        for (Method m : c.getDeclaredMethods()) {
            if (Modifier.isPublic(m.getModifiers())) {
                found.add(told(m));
                names.add(m.getName());
                Due.holds(m + " is no static one", !Modifier.isStatic(m.getModifiers()));
                Due.is(m + " throws", m.getExceptionTypes().length, m.getName().equals("split") ? 1 : 0);
            } else if (!m.isSynthetic()) {
                isPrivate(m);
            }
        }
        Due.same("the methods", found.toString(), face.toString());
        for (Field f : c.getDeclaredFields()) {
            if (!f.getName().equals("NONE")) {
                isPrivate(f);
            } else {
                Due.same("NONE", Modifier.toString(f.getModifiers()) + " " + f.getType(), "public static final int");
            }
        }
        Constructor<?>[] made = c.getDeclaredConstructors();
        Due.holds("one public constructor without arguments",
            made.length == 1 && made[0].getParameterCount() == 0 && Modifier.isPublic(made[0].getModifiers()));
        inside(c, names);
        Due.end("FaceTest");
    }

    private static void inside(Class<?> c, TreeSet<String> names) {
        Due.holds("at most twelve classes", c.getDeclaredClasses().length < 12);
        for (Class<?> d : c.getDeclaredClasses()) {
            int seen = d.getModifiers();
            Due.holds(d + " is static, not seen", Modifier.isStatic(seen) && !Modifier.isPublic(seen) && !Modifier.isProtected(seen));
            long fields = Arrays.stream(d.getDeclaredFields()).filter(f -> !Modifier.isStatic(f.getModifiers())).count();
            Due.holds(d + " has at most twenty fields", fields <= 20);
            for (Method m : d.getDeclaredMethods()) {
                Due.holds(m + " bears no name of the face", !names.contains(m.getName()));
            }
        }
        for (Method m : c.getDeclaredMethods()) {
            if (Modifier.isPrivate(m.getModifiers())) {
                Due.holds(m + " bears no name of the face", !names.contains(m.getName()));
            }
            Due.holds(m + " has at most seven parameters", m.getParameterCount() <= 7);
        }
    }
}
