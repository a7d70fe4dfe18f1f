import java.io.IOException;
import java.lang.reflect.Method;
import java.nio.file.Files;
import java.nio.file.Path;
import java.util.Map;
import java.util.TreeMap;
import java.util.regex.Matcher;
import java.util.regex.Pattern;

/** What README.md says of the class is so: its example, its tables of methods, its command. */
public final class ReadmeTest {
    private static final Pattern EXAMPLE_CALL = Pattern.compile("^tracer\\.(\\w+)\\((.*)\\); +// (-?\\d+)(:.*)?$");
    private static final Pattern TABLE_ROW = Pattern.compile("^\\| `(\\w+\\([\\w, ]*\\))` \\|.*\\|([^|]*)\\|$");
    private static final Pattern TABLE_REFUSAL = Pattern.compile("(-?\\d+): ([^;]*)");
    private static final Pattern PROMISE = Pattern.compile("^`int (\\w+\\([\\w, ]*\\))`: (.*)$");
    // Words up to the sentence's end; the two points of a range do not end it.
    private static final Pattern PROMISE_REFUSAL = Pattern.compile("(-\\d+|\\b0) if ((?:\\.\\.|[^;.])*)");
    private static final Pattern RANGE = Pattern.compile("-?\\d+ \\.\\. \\d+");

    public static void main(String[] args) throws Exception {
        String readme = Files.readString(Path.of("README.md"));
        exampleAnswersAsTold(readme);
        tablesAgreeWithTheDocument(readme);
        commandIsTold(readme);
        Due.finish();
    }

    private static void exampleAnswersAsTold(String readme) throws Exception {
        Due.about("README.md says how the class is used: the example");
        BvhTracer tracer = new BvhTracer();
        Map<String, Integer> made = new TreeMap<>();
        for (String line : readme.lines().filter(found -> found.startsWith("tracer.")).toList()) {
            Matcher call = EXAMPLE_CALL.matcher(line);
            Due.holds("the line tells a call and its answer: " + line, call.matches());
            Due.is(line, answer(tracer, call.group(1), call.group(2)), Integer.parseInt(call.group(3)));
            made.merge(call.group(1), 1, Integer::sum);
        }
        for (Method method : BvhTracer.class.getMethods()) {
            if (method.getDeclaringClass() == BvhTracer.class) {
                Due.holds(method.getName() + " is in the example", made.containsKey(method.getName()));
            }
        }
    }

    private static int answer(BvhTracer tracer, String name, String arguments) throws Exception {
        String[] words = arguments.isEmpty() ? new String[0] : arguments.split(", ");
        Object[] values = new Object[words.length];
        Class<?>[] types = new Class<?>[words.length];
        for (int i = 0; i < words.length; i++) {
            values[i] = value(words[i]);
            types[i] = int.class;
        }
        return (int) BvhTracer.class.getMethod(name, types).invoke(tracer, values);
    }

    /** The value of a sum of products. */
    private static int value(String words) {
        int sum = 0;
        for (String term : words.split(" \\+ ")) {
            int product = 1;
            for (String factor : term.split(" \\* ")) {
                product *= Integer.parseInt(factor);
            }
            sum += product;
        }
        return sum;
    }

    private static void tablesAgreeWithTheDocument(String readme) throws IOException {
        Due.about("README.md says how the class is used: its methods and when they refuse");
        Map<String, String> told = refusals(readme, TABLE_ROW, TABLE_REFUSAL);
        Map<String, String> due = refusals(Files.readString(Path.of("../shared/DOC.md")), PROMISE, PROMISE_REFUSAL);
        Due.is("methods in the document", due.size(), 20);
        Due.same("the list of methods", told.keySet().toString(), due.keySet().toString());
        for (String call : due.keySet()) {
            Due.same(call + "'s refusals", told.getOrDefault(call, "missing"), due.get(call));
        }
    }

    /** For each call, the answers by which it refuses, in their order and with their ranges. */
    private static Map<String, String> refusals(String text, Pattern entry, Pattern refusal) {
        Map<String, String> found = new TreeMap<>();
        for (String line : text.lines().toList()) {
            Matcher method = entry.matcher(line);
            if (!method.matches()) {
                continue;
            }
            StringBuilder all = new StringBuilder();
            Matcher one = refusal.matcher(method.group(2));
            while (one.find()) {
                Matcher range = RANGE.matcher(one.group(2));
                all.append(one.group(1)).append(range.find() ? " not in " + range.group() : "").append("; ");
            }
            found.put(method.group(1).replace("int ", ""), all.toString());
        }
        return found;
    }

    private static void commandIsTold(String readme) {
        Due.about("README.md says by which command its tests are run");
        Due.holds("the command stands in a block of its own", readme.contains("```sh\n.ci/run\n```"));
        Due.holds(".ci/run can be run", Files.isExecutable(Path.of(".ci/run")));
        for (String name : Path.of("src/test/java").toFile().list()) {
            if (name.endsWith("Test.java")) {
                String test = name.replace(".java", "");
                Due.holds(test + " is told of", readme.contains("`" + test + "`"));
            }
        }
    }
}
