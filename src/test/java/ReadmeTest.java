import java.io.IOException;
import java.lang.reflect.Method;
import java.lang.reflect.Modifier;
import java.nio.file.Files;
import java.nio.file.Path;
import java.util.ArrayList;
import java.util.Arrays;
import java.util.List;
import java.util.Set;
import java.util.TreeSet;
import java.util.regex.Matcher;
import java.util.regex.Pattern;
import java.util.stream.Stream;

/**
 * README.md, read from the folder that .ci/run works in: the calls of its example answer what their
 * comments say, the example has every method, and the list of the tests names those that there are.
 */
public final class ReadmeTest {
    private static final Pattern MADE =
        Pattern.compile("PrivateIntersect x = new PrivateIntersect\\((.+)\\); // \\S.*");
    private static final Pattern CALL = Pattern.compile("x\\.(\\w+)\\((.*)\\); +// (-?\\d+): \\S.*");
    private static final Pattern LISTED_TEST = Pattern.compile("- `(\\w+)`: \\S.*");

    private static int wrong = 0;

    public static void main(String[] args) throws IOException, ReflectiveOperationException {
        List<String> readme = Files.readAllLines(Path.of("README.md"));
        runExample(exampleIn(readme));
        checkListOfTests(readme);
        checkCommand(readme);
        System.out.println(wrong == 0 ? "README.md is as due" : wrong + " things in README.md are not as due");
        if (wrong != 0) {
            System.exit(1);
        }
    }

    private static void due(String what, Object got, Object want) {
        if (!got.equals(want)) {
            wrong++;
            System.out.println("README.md: " + what + " answered " + got + ", due is " + want);
        }
    }

    private static List<String> exampleIn(List<String> readme) {
        int begin = readme.indexOf("```java");
        due("how many examples there are", readme.stream().filter("```java"::equals).count(), 1L);
        int length = readme.subList(begin + 1, readme.size()).indexOf("```");
        return readme.subList(begin + 1, begin + 1 + length);
    }

    private static void runExample(List<String> example) throws ReflectiveOperationException {
        Matcher made = MADE.matcher(example.get(0));
        due("whether an object is made in '" + example.get(0) + "'", made.matches(), true);
        int[] secrets = numbers(made.group(1));
        PrivateIntersect x = new PrivateIntersect(secrets[0], secrets[1], secrets[2]);
        Set<String> called = new TreeSet<>();
        for (String line : example.subList(1, example.size())) {
            Matcher call = CALL.matcher(line);
            // A line that is passed over would be a call whose answer nobody compares.
            if (!call.matches()) {
                due("whether '" + line + "' is a call with its answer", false, true);
                continue;
            }
            called.add(call.group(1));
            due(line, answer(x, call.group(1), numbers(call.group(2))), Integer.parseInt(call.group(3)));
        }
        due("the methods in the example", called, publicMethods());
    }

    private static int[] numbers(String arguments) {
        return arguments.isEmpty() ? new int[0]
            : Arrays.stream(arguments.split(", ")).mapToInt(Integer::parseInt).toArray();
    }

    private static int answer(PrivateIntersect x, String name, int[] arguments) throws ReflectiveOperationException {
        Class<?>[] types = new Class<?>[arguments.length];
        Arrays.fill(types, int.class);
        Method method = PrivateIntersect.class.getMethod(name, types);
        return (int) method.invoke(x, Arrays.stream(arguments).boxed().toArray());
    }

    private static Set<String> publicMethods() {
        Set<String> names = new TreeSet<>();
        for (Method method : PrivateIntersect.class.getDeclaredMethods()) {
            if (Modifier.isPublic(method.getModifiers())) {
                names.add(method.getName());
            }
        }
        return names;
    }

    /** Not those of ../shared/tests: they come from elsewhere, and a new one is no fault of this project. */
    private static void checkListOfTests(List<String> readme) throws IOException {
        List<String> listed = new ArrayList<>();
        for (String line : readme) {
            Matcher test = LISTED_TEST.matcher(line);
            if (test.matches()) {
                listed.add(test.group(1) + ".java");
            }
        }
        List<String> there = new ArrayList<>();
        try (Stream<Path> files = Files.list(Path.of("src/test/java"))) {
            files.forEach(file -> there.add(file.getFileName().toString()));
        }
        listed.sort(null);
        there.sort(null);
        due("the list of the tests in src/test/java", listed, there);
    }

    private static void checkCommand(List<String> readme) {
        List<String> commands = readme.stream().filter(line -> line.startsWith("    ")).toList();
        due("the commands", commands, List.of("    .ci/run"));
        due("whether .ci/run can be run", Files.isExecutable(Path.of(".ci/run")), true);
    }
}
