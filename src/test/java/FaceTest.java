import java.io.IOException;
import java.lang.management.ManagementFactory;
import java.lang.reflect.Constructor;
import java.lang.reflect.Field;
import java.lang.reflect.Member;
import java.lang.reflect.Method;
import java.lang.reflect.Modifier;
import java.nio.file.Files;
import java.nio.file.Path;
import java.util.ArrayList;
import java.util.Arrays;
import java.util.List;
import java.util.Set;
import java.util.TreeSet;
import java.util.regex.Matcher;
import java.util.regex.Pattern;
import java.util.stream.Collectors;

/** The public face, the rules of the language that can be seen here, and what the calls make. */
public final class FaceTest {
    private static final Path SOURCE = Path.of("src/main/java/NodalAuction.java");
    private static final Set<String> FACE = Set.of(
        "int line(int, int, int, int)", "boolean limit(int, int)", "boolean cut(int)",
        "int bid(int, int, int)", "int offer(int, int, int)", "boolean cancel(int)",
        "int clear()", "int steps()", "int lines()", "int scale()", "int accepted(int)",
        "int flow(int)", "int tight()", "long welfare()", "long extraTop(int)",
        "int extraBottom(int)", "int check(int, int, int, int)", "long rent(int, int, int, int)");
    private static int wrong = 0;

    private static void due(String what, Object got, Object want) {
        if (!got.equals(want)) {
            wrong++;
            System.out.println(what + ": " + got + ", due is " + want);
        }
    }

    private static String shape(Method m) {
        String types = Arrays.stream(m.getParameterTypes()).map(Class::getName).collect(Collectors.joining(", "));
        return m.getReturnType().getName() + " " + m.getName() + "(" + types + ")";
    }

    private static boolean isHidden(Member m) {
        return Modifier.isPrivate(m.getModifiers());
    }

    private static void face() {
        Class<?> type = NodalAuction.class;
        due("public and final", Modifier.isPublic(type.getModifiers()) && Modifier.isFinal(type.getModifiers()), true);
        List<Method> methods = Arrays.asList(type.getDeclaredMethods());
        Set<String> open = methods.stream().filter(m -> !isHidden(m)).map(FaceTest::shape).collect(Collectors.toCollection(TreeSet::new));
        due("open methods", open, new TreeSet<>(FACE));
        Set<String> names = methods.stream().filter(m -> !isHidden(m)).map(Method::getName).collect(Collectors.toSet());
        due("private methods with a public name", methods.stream().filter(m -> isHidden(m) && names.contains(m.getName())).count(), 0L);
        due("open methods that are not public alone", methods.stream().filter(m -> !isHidden(m) && m.getModifiers() != Modifier.PUBLIC).map(Method::getName).toList(), List.of());
        due("open fields", Arrays.stream(type.getDeclaredFields()).filter(f -> !isHidden(f)).map(f -> f.getName()).toList(), List.of("NONE"));
        due("NONE", Arrays.stream(type.getFields()).map(Field::toString).toList(), List.of("public static final int NodalAuction.NONE"));
        due("NONE", NodalAuction.NONE, -2147483648);
        due("constructors", type.getDeclaredConstructors().length, 1);
        due("public constructors", Arrays.stream(type.getConstructors()).map(Constructor::toString).toList(), List.of("public NodalAuction()"));
        for (Class<?> inside : type.getDeclaredClasses()) {
            due("static and not public: " + inside.getName(), inside.getModifiers() & (Modifier.STATIC | Modifier.PUBLIC | Modifier.PROTECTED), Modifier.STATIC);
            due("private methods with a public name in " + inside.getName(), Arrays.stream(inside.getDeclaredMethods()).filter(m -> names.contains(m.getName())).count(), 0L);
        }
    }

    private static void sizes() {
        List<Class<?>> all = new ArrayList<>(Arrays.asList(NodalAuction.class.getDeclaredClasses()));
        all.add(NodalAuction.class);
        due("at most twelve classes", all.size() <= 12, true);
        for (Class<?> type : all) {
            long fields = Arrays.stream(type.getDeclaredFields()).filter(f -> !Modifier.isStatic(f.getModifiers())).count();
            due("at most twenty fields in " + type.getName(), fields <= 20, true);
            due("static fields that are not final in " + type.getName(), Arrays.stream(type.getDeclaredFields())
                .filter(f -> Modifier.isStatic(f.getModifiers()) && !Modifier.isFinal(f.getModifiers())).count(), 0L);
            due("methods of more than seven parameters in " + type.getName(), Arrays.stream(type.getDeclaredMethods())
                .filter(m -> m.getParameterCount() > 7).count(), 0L);
        }
    }

    private static void language() throws IOException {
        String text = Files.readString(SOURCE).replaceAll("(?s)/\\*.*?\\*/", "").replaceAll("//[^\n]*", "");
        Matcher m = Pattern.compile("\\b(throw|throws|try|catch|synchronized|assert|import|package|double|float)\\b|->|::|\"").matcher(text);
        while (m.find()) {
            due("a word that the language leaves out", m.group(), "none");
        }
    }

    /** All calls of a run live in one room, so none but the constructor may make anything. */
    private static void room() {
        com.sun.management.ThreadMXBean threads = (com.sun.management.ThreadMXBean) ManagementFactory.getThreadMXBean();
        calls(new NodalAuction());
        NodalAuction x = new NodalAuction();
        long before = threads.getCurrentThreadAllocatedBytes();
        long sum = calls(x);
        long made = threads.getCurrentThreadAllocatedBytes() - before;
        due("answers were given", sum != 0, true);
        due("bytes made by 500 calls are few", made < 20000, true);
    }

    private static long calls(NodalAuction x) {
        long sum = 0;
        for (int a = 0; a < 4; a++) {
            for (int b = a + 1; b < 4; b++) {
                sum += x.line(a, b, 1 + a + b % 3, 5 + a * b);
            }
            sum += x.bid(a, 9 - a, 7 + a) + x.offer(a, 3 + a, 6 + a);
        }
        for (int i = 0; i < 60; i++) {
            x.limit(i % 6, i);
            sum += x.clear() + x.scale() + x.accepted(0) + x.flow(0) + x.welfare();
            sum += x.extraTop(i % 4) + x.extraBottom(i % 4) + x.check(i, 3, 4, 5) + x.rent(i, 3, 4, 5);
        }
        return sum;
    }

    public static void main(String[] args) throws IOException {
        face();
        sizes();
        language();
        room();
        System.out.println(wrong == 0 ? "all is as due" : wrong + " things are not as due");
        if (wrong != 0) {
            System.exit(1);
        }
    }
}
