import java.lang.reflect.Method;
import java.nio.file.Files;
import java.nio.file.Path;
import java.util.List;
import java.util.regex.Matcher;
import java.util.regex.Pattern;
import java.util.stream.Collectors;
import java.util.stream.Stream;

/** README.md is there, tells how the class is used (by answers that it gives) and how its tests are run (all of them). */
public final class ReadmeTest {
    private static int wrong;

    public static void main(String[] args) throws Exception {
        Path file = Path.of("README.md");
        must("README.md is there", Files.isRegularFile(file));
        String readme = wrong == 0 ? Files.readString(file) : "";
        must("it tells how to use the class", readme.contains("\n## How to use it\n"));
        must("it tells how to run the tests", readme.contains("\n## How to run its tests\n"));
        must("it names .ci/run", readme.contains("\n.ci/run\n"));
        everyCall(readme);
        everyTest(readme);
        example(readme);
        System.out.println(wrong == 0 ? "ReadmeTest: README.md holds" : "ReadmeTest: " + wrong + " faults");
        if (wrong != 0) System.exit(1);
    }

    private static void must(String what, boolean holds) {
        if (!holds) {
            wrong++;
            System.out.println("ReadmeTest: not so: " + what);
        }
    }

    private static void everyCall(String readme) {
        for (Method m : FourHands.class.getMethods()) {
            if (m.getDeclaringClass() == FourHands.class) must(m.getName() + " is told of", readme.contains("`" + m.getName() + "("));
        }
    }

    private static void everyTest(String readme) throws Exception {
        List<String> tests;
        try (Stream<Path> all = Files.list(Path.of("src/test/java"))) {
            tests = all.map(p -> p.getFileName().toString()).filter(n -> n.endsWith("Test.java")).collect(Collectors.toList());
        }
        must("there are tests", tests.size() > 5);
        for (String test : tests) must(test + " is told of", readme.contains(test));
        must("the shared tests are told of", readme.contains("../shared/tests"));
    }

    /** Lines such as "x.clash(0, 1);  // 3: ELBOW", each called in its turn on one object. */
    private static void example(String readme) throws Exception {
        int from = readme.indexOf("```java");
        int to = readme.indexOf("```", from + 3);
        must("there is an example", from >= 0 && to > from);
        if (from < 0 || to < from) return;
        FourHands x = new FourHands();
        int answers = 0;
        for (String line : readme.substring(from, to).split("\n")) {
            Matcher call = Pattern.compile("x\\.(\\w+)\\(([^)]*)\\);\\s*//\\s*(-?\\d+):.*").matcher(line);
            if (!call.matches()) continue;
            long got = answer(x, call.group(1), call.group(2));
            must(line.trim() + " (it answers " + got + ")", got == Long.parseLong(call.group(3)));
            answers++;
        }
        must("the example has answers", answers > 5);
    }

    private static long answer(FourHands x, String name, String arguments) throws Exception {
        String[] told = arguments.isBlank() ? new String[0] : arguments.split(",");
        Object[] values = new Object[told.length];
        for (int i = 0; i < told.length; i++) values[i] = Integer.parseInt(told[i].trim());
        for (Method m : FourHands.class.getMethods()) {
            if (m.getName().equals(name) && m.getParameterCount() == values.length) return ((Number) m.invoke(x, values)).longValue();
        }
        throw new IllegalStateException("no such call: " + name);
    }
}
