import java.io.IOException;
import java.lang.reflect.Method;
import java.lang.reflect.Modifier;
import java.nio.file.Files;
import java.nio.file.Path;
import java.util.ArrayList;
import java.util.Arrays;
import java.util.HashMap;
import java.util.List;
import java.util.Map;
import java.util.Set;
import java.util.TreeSet;
import java.util.regex.Matcher;
import java.util.regex.Pattern;

/** README.md shows true answers: its example is run call by call, and its table has the calls of the class. */
public final class ReadmeTest {
    private static final String MAKING = "SnapshotTree tree = new SnapshotTree();";
    private static final Pattern CALL = Pattern.compile("(?:int (?<name>\\w+) = )?"
            + "tree\\.(?<method>\\w+)\\((?<arguments>[^()]*)\\); +// (?<answer>-?\\d+)(?:: .*)?");
    private static final Pattern ROW = Pattern.compile("\\| `(?<method>\\w+)\\((?<arguments>[^()]*)\\)` \\|.*");

    private static int wrong = 0;

    public static void main(String[] args) throws IOException, ReflectiveOperationException {
        List<String> readme = Files.readAllLines(Path.of("README.md"));
        Set<String> shown = runExample(exampleOf(readme));
        Set<String> calls = callsOfTheClass();
        check(shown.equals(calls), "the example shows " + shown);
        List<String> rows = rowsOf(readme);
        check(new TreeSet<>(rows).equals(calls) && rows.size() == calls.size(), "the table has " + rows);
        System.out.println(wrong == 0 ? "the README is true" : wrong + " faults in the README");
        if (wrong != 0) {
            System.exit(1);
        }
    }

    private static void check(boolean holds, String fault) {
        if (!holds) {
            wrong++;
            System.out.println(fault);
        }
    }

    private static List<String> exampleOf(List<String> readme) {
        int start = readme.indexOf("```java") + 1;
        List<String> rest = readme.subList(start, readme.size());
        return rest.subList(0, rest.indexOf("```"));
    }

    /** Answers the calls that the example shows, each as its name and the number of its arguments. */
    private static Set<String> runExample(List<String> example) throws ReflectiveOperationException {
        check(example.get(0).equals(MAKING), "the example starts with " + example.get(0));
        SnapshotTree tree = new SnapshotTree();
        Map<String, Integer> named = new HashMap<>();
        Set<String> shown = new TreeSet<>();
        for (String line : example.subList(1, example.size())) {
            Matcher call = CALL.matcher(line);
            if (!call.matches()) {
                check(false, "not a call with its answer: " + line);
                continue;
            }
            int got = answer(tree, call.group("method"), arguments(call.group("arguments"), named));
            check(got == Integer.parseInt(call.group("answer")), "answered " + got + ": " + line);
            if (call.group("name") != null) {
                named.put(call.group("name"), got);
            }
            shown.add(nameAndCount(call));
        }
        return shown;
    }

    private static List<String> split(String arguments) {
        return arguments.isEmpty() ? List.of() : List.of(arguments.split(", "));
    }

    private static List<Integer> arguments(String text, Map<String, Integer> named) {
        List<Integer> numbers = new ArrayList<>();
        for (String argument : split(text)) {
            numbers.add(named.containsKey(argument) ? named.get(argument) : Integer.valueOf(argument));
        }
        return numbers;
    }

    private static int answer(SnapshotTree tree, String name, List<Integer> numbers) throws ReflectiveOperationException {
        Class<?>[] types = new Class<?>[numbers.size()];
        Arrays.fill(types, int.class);
        return (int) SnapshotTree.class.getMethod(name, types).invoke(tree, numbers.toArray());
    }

    private static String nameAndCount(Matcher call) {
        return call.group("method") + "/" + split(call.group("arguments")).size();
    }

    private static List<String> rowsOf(List<String> readme) {
        List<String> rows = new ArrayList<>();
        for (String line : readme) {
            Matcher row = ROW.matcher(line);
            if (row.matches()) {
                rows.add(nameAndCount(row));
            }
        }
        return rows;
    }

    private static Set<String> callsOfTheClass() {
        Set<String> calls = new TreeSet<>();
        for (Method method : SnapshotTree.class.getDeclaredMethods()) {
            if (Modifier.isPublic(method.getModifiers())) {
                calls.add(method.getName() + "/" + method.getParameterCount());
            }
        }
        return calls;
    }
}
