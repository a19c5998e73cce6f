import java.io.IOException;
import java.lang.reflect.Method;
import java.lang.reflect.Modifier;
import java.nio.file.DirectoryStream;
import java.nio.file.Files;
import java.nio.file.Path;
import java.util.ArrayList;
import java.util.Arrays;
import java.util.List;
import java.util.Set;
import java.util.TreeSet;
import java.util.regex.Matcher;
import java.util.regex.Pattern;

// What README.md says of the class holds: each call of its example answers what
// stands beside it, each refusal of its table is answered, and it names every
// method and every test. Run in the checkout's folder.
public final class ReadmeTest {
    private static final Pattern MAKING =
        Pattern.compile("DisjunctiveTimes times = new DisjunctiveTimes\\((\\d+)\\);");
    private static final Pattern CALL =
        Pattern.compile("times\\.(\\w+)\\(([^()]*)\\);\\s+// (-?\\d+)\\b.*");
    private static final Pattern ROW =
        Pattern.compile("\\| `(\\w+)\\(([^()]*)\\)` \\|[^|]*\\|([^|]*)\\|");
    private static final Pattern REFUSAL = Pattern.compile("(-\\d+) [a-z]");
    private static final Pattern TEST = Pattern.compile("- `(\\w+)`: .*");

    private static int wrong = 0;

    private static void due(String what, Object got, Object want) {
        if (!got.equals(want)) {
            wrong++;
            System.out.println(what + " is " + got + ", due is " + want);
        }
    }

    private static List<String> block(List<String> lines, String kind) {
        int start = lines.indexOf("```" + kind);
        if (start < 0) {
            return List.of();
        }
        List<String> rest = lines.subList(start + 1, lines.size());
        return rest.subList(0, rest.indexOf("```"));
    }

    // A sum of products of whole numbers, as 8 * 1 + 2
    private static int value(String text) {
        int sum = 0;
        for (String term : text.split("\\+")) {
            int product = 1;
            for (String factor : term.split("\\*")) {
                product *= Integer.parseInt(factor.trim());
            }
            sum += product;
        }
        return sum;
    }

    private static int answer(DisjunctiveTimes x, String name, Object... values) throws ReflectiveOperationException {
        Class<?>[] types = new Class<?>[values.length];
        Arrays.fill(types, int.class);
        return (Integer) DisjunctiveTimes.class.getMethod(name, types).invoke(x, values);
    }

    private static Object[] values(String arguments) {
        List<Object> values = new ArrayList<>();
        if (!arguments.isBlank()) {
            for (String argument : arguments.split(",")) {
                values.add(value(argument));
            }
        }
        return values.toArray();
    }

    private static void example(List<String> lines) throws ReflectiveOperationException {
        List<String> code = block(lines, "java");
        due("there is an example", code.size() > 1, true);
        DisjunctiveTimes x = new DisjunctiveTimes(2);
        for (String line : code) {
            Matcher making = MAKING.matcher(line);
            Matcher call = CALL.matcher(line);
            if (making.matches()) {
                x = new DisjunctiveTimes(Integer.parseInt(making.group(1)));
            } else if (call.matches()) {
                int want = Integer.parseInt(call.group(3));
                due(line, answer(x, call.group(1), values(call.group(2))), want);
            } else {
                due("can be read: " + line, false, true);
            }
        }
    }

    private static Set<String> methods() {
        Set<String> names = new TreeSet<>();
        for (Method method : DisjunctiveTimes.class.getDeclaredMethods()) {
            if (Modifier.isPublic(method.getModifiers())) {
                names.add(method.getName() + " " + method.getParameterCount());
            }
        }
        return names;
    }

    private static void table(List<String> lines) {
        Set<String> named = new TreeSet<>();
        for (String line : lines) {
            Matcher row = ROW.matcher(line);
            if (row.matches()) {
                String arguments = row.group(2);
                int count = arguments.isBlank() ? 0 : arguments.split(",").length;
                named.add(row.group(1) + " " + count);
                List<Integer> refusals = new ArrayList<>();
                Matcher refusal = REFUSAL.matcher(row.group(3));
                while (refusal.find()) {
                    refusals.add(Integer.parseInt(refusal.group(1)));
                }
                due("the refusals of " + row.group(1), refusals, refusals(row.group(1)));
            }
        }
        due("the table's methods", named, methods());
    }

    private static DisjunctiveTimes withDraft(int count) {
        DisjunctiveTimes x = new DisjunctiveTimes(3);
        for (int at = 0; at < count; at++) {
            x.alternative(0, 1, 0);
        }
        return x;
    }

    private static DisjunctiveTimes full() {
        DisjunctiveTimes x = new DisjunctiveTimes(3);
        for (int at = 0; at < 8; at++) {
            x.alternative(0, 1, 0);
            x.add();
        }
        x.alternative(0, 1, 0);
        return x;
    }

    private static DisjunctiveTimes unsolvable() {
        DisjunctiveTimes x = new DisjunctiveTimes(3);
        x.alternative(0, 1, -8);
        x.add();
        return x;
    }

    // What the class answers in the cases of the table, from left to right
    private static List<Integer> refusals(String name) {
        DisjunctiveTimes x = new DisjunctiveTimes(3);
        switch (name) {
            case "alternative":
                return List.of(x.alternative(4, 0, 0), x.alternative(0, 0, 0), x.alternative(0, 1, 11),
                    withDraft(3).alternative(0, 1, 0));
            case "add": return List.of(x.add(), full().add());
            case "apart":
                return List.of(x.apart(3, 0, 0), x.apart(0, 0, 0), x.apart(1, 8, 0), x.apart(1, 0, 8),
                    full().apart(1, 0, 0));
            case "remove": return List.of(x.remove(0));
            case "earliest": return List.of(x.earliest(3), unsolvable().earliest(0));
            case "latest": return List.of(x.latest(3), unsolvable().latest(0));
            case "widest": return List.of(x.widest(4, 0), unsolvable().widest(0, 1));
            case "next": return List.of(unsolvable().next(-1));
            case "meets": return List.of(x.meets(512));
            case "shortest": return List.of(unsolvable().shortest());
            case "entailed": return List.of(x.entailed());
            case "redundant": return List.of(x.redundant(0));
            default: return List.of();
        }
    }

    private static void tests(List<String> lines) throws IOException {
        due("the way to run the tests", block(lines, "sh"), List.of(".ci/run"));
        due(".ci/run can be run", Files.isExecutable(Path.of(".ci/run")), true);
        Set<String> named = new TreeSet<>();
        for (String line : lines) {
            Matcher test = TEST.matcher(line);
            if (test.matches()) {
                named.add(test.group(1) + ".java");
            }
        }
        Set<String> there = new TreeSet<>();
        try (DirectoryStream<Path> files = Files.newDirectoryStream(Path.of("src/test/java"), "*.java")) {
            for (Path file : files) {
                there.add(file.getFileName().toString());
            }
        }
        due("the tests that are named", named, there);
    }

    public static void main(String[] args) throws IOException, ReflectiveOperationException {
        List<String> lines = Files.readAllLines(Path.of("README.md"));
        example(lines);
        table(lines);
        tests(lines);
        System.out.println(wrong == 0 ? "README.md holds" : wrong + " faults in README.md");
        if (wrong != 0) {
            System.exit(1);
        }
    }
}
