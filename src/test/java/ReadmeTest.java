import java.io.IOException;
import java.lang.reflect.Method;
import java.lang.reflect.Modifier;
import java.nio.file.Files;
import java.nio.file.Path;
import java.util.ArrayList;
import java.util.Arrays;
import java.util.List;
import java.util.Set;
import java.util.TreeSet;
import java.util.regex.Matcher;
import java.util.regex.Pattern;
import java.util.stream.Collectors;
import java.util.stream.Stream;

/** README.md: the calls that it shows give the answers that it tells, and it leaves nothing out. */
public final class ReadmeTest {
    private static final Path README = Path.of("README.md");
    private static final Path TESTS = Path.of("src/test/java");
    private static final Pattern RUN = Pattern.compile("(?s)```java\n(.*?)```");
    private static final Pattern MADE = Pattern.compile("NodalAuction market = new NodalAuction\\(\\);");
    private static final Pattern CALL = Pattern.compile("market\\.(\\w+)\\(([-0-9, ]*)\\); +// (-?\\d+|NONE|true|false)(:.*)?");
    private static int wrong = 0;

    private static void due(String what, Object got, Object want) {
        if (!got.equals(want)) {
            wrong++;
            System.out.println(what + ": " + got + ", due is " + want);
        }
    }

    private static List<Method> face() {
        return Arrays.stream(NodalAuction.class.getDeclaredMethods()).filter(m -> Modifier.isPublic(m.getModifiers())).toList();
    }

    private static Object answer(NodalAuction market, String name, String inputs) throws ReflectiveOperationException {
        Object[] numbers = inputs.isBlank() ? new Object[0]
            : Arrays.stream(inputs.split(",")).map(String::trim).map(Integer::valueOf).toArray();
        for (Method m : face()) {
            if (m.getName().equals(name) && m.getParameterCount() == numbers.length) {
                return m.invoke(market, numbers);
            }
        }
        return "no such call";
    }

    private static String shown(String told) {
        return told.equals("NONE") ? Integer.toString(NodalAuction.NONE) : told;
    }

    /** Makes the calls of one run; the names of those that were made. */
    private static List<String> follow(String run) throws ReflectiveOperationException {
        List<String> called = new ArrayList<>();
        NodalAuction market = null;
        for (String row : run.lines().map(String::trim).filter(r -> !r.isEmpty() && !r.startsWith("//")).toList()) {
            Matcher call = CALL.matcher(row);
            if (MADE.matcher(row).matches()) {
                market = new NodalAuction();
            } else if (market == null || !call.matches()) {
                due("a row of the run", row, "a call on a market that is there, with its answer");
            } else {
                String got = answer(market, call.group(1), call.group(2)).toString();
                due(call.group(1) + "(" + call.group(2) + ")", got, shown(call.group(3)));
                called.add(call.group(1));
            }
        }
        return called;
    }

    private static void runs(String text) throws ReflectiveOperationException {
        Set<String> called = new TreeSet<>();
        for (Matcher run = RUN.matcher(text); run.find();) {
            called.addAll(follow(run.group(1)));
        }
        due("calls that are shown", called, face().stream().map(Method::getName).collect(Collectors.toCollection(TreeSet::new)));
    }

    private static void tests(String text) throws IOException {
        due(".ci/run is named", text.contains(".ci/run"), true);
        try (Stream<Path> files = Files.list(TESTS)) {
            for (String name : files.map(f -> f.getFileName().toString().replace(".java", "")).toList()) {
                due(name + " is named", text.contains("`" + name + "`"), true);
            }
        }
    }

    public static void main(String[] args) throws IOException, ReflectiveOperationException {
        String text = Files.readString(README);
        runs(text);
        tests(text);
        System.out.println(wrong == 0 ? "all is as due" : wrong + " things are not as due");
        if (wrong != 0) {
            System.exit(1);
        }
    }
}
