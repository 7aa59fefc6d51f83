import java.io.IOException;
import java.lang.reflect.Method;
import java.lang.reflect.Modifier;
import java.nio.file.Files;
import java.nio.file.Path;
import java.util.HashMap;
import java.util.Map;
import java.util.TreeSet;
import java.util.regex.Matcher;
import java.util.regex.Pattern;
import java.util.stream.Stream;

/** What README.md says is so: its example, its table of calls, and its list of tests. */
public final class ReadmeTest {
    private static final Pattern STATEMENT = Pattern.compile(
            "(?:int (\\w+) = )?match\\.(\\w+)\\(([^()]*)\\);(?: +// (.*))?");
    private static final Pattern ANSWER = Pattern.compile("(-?\\d+)(?:,.*)?");
    private static final Pattern ROW = Pattern.compile("(?m)^\\| `(\\w+)\\(([^)]*)\\)` \\| .+ \\|$");
    private static final Pattern TESTS = Pattern.compile("`(\\w+Test)`");
    private static final String MAKING = "AdvisoryMatch match = new AdvisoryMatch();";
    private static final Check check = new Check();

    public static void main(String[] args) throws Exception {
        String text = Files.readString(Path.of("README.md"));
        example(text);
        calls(text);
        tests(text);
        check.about("how to run the tests");
        check.yes(".ci/run is told of", text.contains("    .ci/run\n"));
        check.yes(".ci/run can be run", Files.isExecutable(Path.of(".ci/run")));
        check.end("ReadmeTest");
    }

    /** Carries out the example; where a remark begins with a number, that is the answer due. */
    private static void example(String text) throws ReflectiveOperationException {
        check.about("the example");
        String block = text.substring(text.indexOf("```java\n") + 8);
        String[] lines = block.substring(0, block.indexOf("```")).split("\n");
        check.yes("it begins with a new object", lines[0].equals(MAKING));
        AdvisoryMatch match = new AdvisoryMatch();
        Map<String, Integer> names = new HashMap<>(Map.of("true", 1, "false", 0, "NONE", -1));
        int compared = 0;
        for (int i = 1; i < lines.length; i++) {
            Matcher statement = STATEMENT.matcher(lines[i]);
            if (lines[i].isEmpty()) {
                continue;
            }
            check.yes("a statement of its form: " + lines[i], statement.matches());
            int answer = carryOut(match, statement.group(2), statement.group(3), names);
            if (statement.group(1) != null) {
                names.put(statement.group(1), answer);
            }
            String remark = statement.group(4) == null ? "" : statement.group(4);
            Matcher due = ANSWER.matcher(remark);
            if (due.matches()) {
                compared++;
                check.same(lines[i], Integer.parseInt(due.group(1)), answer);
            } else {
                check.yes("not refused: " + lines[i], answer >= 0);
            }
        }
        check.yes("answers are told", compared > 5);
    }

    /** The answer of one call; a boolean counts 1, or -1 where the call is refused. */
    private static int carryOut(AdvisoryMatch match, String name, String arguments,
            Map<String, Integer> names) throws ReflectiveOperationException {
        Method method = Stream.of(AdvisoryMatch.class.getMethods())
                .filter(m -> m.getName().equals(name)).findFirst().orElseThrow();
        String[] texts = arguments.isEmpty() ? new String[0] : arguments.split(", ");
        Object[] values = new Object[texts.length];
        for (int i = 0; i < texts.length; i++) {
            int value = names.containsKey(texts[i]) ? names.get(texts[i]) : Integer.parseInt(texts[i]);
            boolean isFlag = method.getParameterTypes()[i] == boolean.class;
            values[i] = isFlag ? (Object) (value == 1) : (Object) value;
        }
        Object answer = method.invoke(match, values);
        if (answer instanceof Boolean done) {
            return done ? 1 : -1;
        }
        return (Integer) answer;
    }

    private static void calls(String text) {
        check.about("the table of calls");
        TreeSet<String> told = new TreeSet<>();
        Matcher row = ROW.matcher(text);
        while (row.find()) {
            int parameters = row.group(2).isEmpty() ? 0 : row.group(2).split(", ").length;
            told.add(row.group(1) + " " + parameters);
        }
        TreeSet<String> face = new TreeSet<>();
        for (Method method : AdvisoryMatch.class.getDeclaredMethods()) {
            if (Modifier.isPublic(method.getModifiers())) {
                face.add(method.getName() + " " + method.getParameterCount());
            }
        }
        check.yes("each call and no other: " + told, told.equals(face));
    }

    private static void tests(String text) throws IOException {
        check.about("the list of tests");
        TreeSet<String> told = new TreeSet<>();
        Matcher name = TESTS.matcher(text);
        while (name.find()) {
            told.add(name.group(1));
        }
        TreeSet<String> there = new TreeSet<>();
        try (Stream<Path> files = Files.list(Path.of("src/test/java"))) {
            files.map(f -> f.getFileName().toString()).filter(f -> f.endsWith("Test.java"))
                    .forEach(f -> there.add(f.replace(".java", "")));
        }
        check.yes("each test and no other: " + told, told.equals(there));
    }
}
