import java.io.IOException;
import java.lang.reflect.Method;
import java.lang.reflect.Modifier;
import java.nio.file.Files;
import java.nio.file.Path;
import java.util.Set;
import java.util.TreeSet;
import java.util.regex.Matcher;
import java.util.regex.Pattern;
import java.util.stream.Stream;

/** README.md says what is so: its example, its calls, its tests and how they are run. */
public final class ReadmeTest {
    private static final Pattern CALL = Pattern.compile("x\\.(\\w+)\\(([^)]*)\\);(?: +// ([-\\w]+).*)?");

    public static void main(String[] args) throws Exception {
        Path root = Path.of(args.length > 0 ? args[0] : ".");
        String page = Files.readString(root.resolve("README.md"));
        example(block(page, "java"), block(page, "text").trim());
        calls(page);
        tests(page, root);
        Check.finish("ReadmeTest");
    }

    private static String block(String page, String sort) {
        Matcher matcher = Pattern.compile("(?s)```" + sort + "\n(.*?)```").matcher(page);
        return matcher.find() ? matcher.group(1) : "";
    }

    private static void example(String code, String text) throws ReflectiveOperationException {
        GridLaws x = new GridLaws();
        StringBuilder fed = new StringBuilder();
        for (String line : code.split("\n")) {
            Matcher call = CALL.matcher(line);
            if (!call.matches()) {
                Check.due("a line of the example: " + line, true, line.equals("GridLaws x = new GridLaws();"));
                continue;
            }
            String[] given = call.group(2).isEmpty() ? new String[0] : call.group(2).split(", ");
            long answer = answer(x, call.group(1), given);
            if (call.group(1).equals("feed")) {
                addBytes(fed, given);
            } else {
                Check.due(line, number(call.group(3)), answer);
            }
        }
        Check.due("the text of the example", true, !text.isEmpty() && fed.toString().trim().equals(text));
    }

    private static void addBytes(StringBuilder fed, String[] given) {
        for (String number : given) {
            for (int shift = 24; shift >= 0; shift -= 8) {
                fed.append((char) (Integer.decode(number) >>> shift & 255));
            }
        }
    }

    private static long answer(GridLaws x, String name, String[] given) throws ReflectiveOperationException {
        for (Method method : GridLaws.class.getMethods()) {
            Class<?>[] types = method.getParameterTypes();
            if (method.getName().equals(name) && types.length == given.length) {
                Object[] values = new Object[given.length];
                for (int i = 0; i < given.length; i++) {
                    values[i] = types[i] == boolean.class ? (Object) Boolean.valueOf(given[i]) : Integer.decode(given[i]);
                }
                Object answer = method.invoke(x, values);
                return answer instanceof Boolean is ? (is ? 1 : 0) : (Integer) answer;
            }
        }
        throw new IllegalStateException("no call " + name);
    }

    private static long number(String word) {
        return switch (word) {
            case "true" -> 1;
            case "false" -> 0;
            case "NONE" -> GridLaws.NONE;
            case "SPENT" -> GridLaws.SPENT;
            case "GAP" -> GridLaws.GAP;
            default -> Integer.parseInt(word);
        };
    }

    private static void calls(String page) {
        Set<String> due = new TreeSet<>();
        for (Method method : GridLaws.class.getDeclaredMethods()) {
            if (Modifier.isPublic(method.getModifiers())) {
                due.add(method.getName());
            }
        }
        Set<String> told = new TreeSet<>();
        Matcher row = Pattern.compile("(?m)^\\| (`.*`) \\|").matcher(page);
        while (row.find()) {
            told.addAll(Set.of(row.group(1).replace("`", "").split(" ")));
        }
        Check.due("all calls are told: " + told, true, told.equals(due));
    }

    private static void tests(String page, Path root) throws IOException {
        Set<String> due = new TreeSet<>();
        try (Stream<Path> files = Files.list(root.resolve("src/test/java"))) {
            files.map(f -> f.getFileName().toString()).filter(n -> n.endsWith("Test.java"))
                    .forEach(n -> due.add(n.replace(".java", "")));
        }
        Set<String> told = new TreeSet<>();
        Matcher row = Pattern.compile("(?m)^\\| (\\w+Test) \\|").matcher(page);
        while (row.find()) {
            told.add(row.group(1));
        }
        Check.due("all tests are told: " + told, true, told.equals(due));
        Check.due("how to run them is told", true, page.contains("\n    bash .ci/run\n"));
        Path script = root.resolve(".ci/run");
        Check.due(".ci/run can be run", true, Files.isExecutable(script));
        String run = Files.readString(script);
        Check.due(".ci/run runs each test of the project", true, run.contains("/src/test/java/*Test.java"));
        Check.due(".ci/run runs each shared test", true, run.contains("/tests/*.java"));
    }
}
