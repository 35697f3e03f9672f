import java.lang.reflect.Method;
import java.lang.reflect.Modifier;
import java.nio.file.Files;
import java.nio.file.Path;
import java.util.ArrayList;
import java.util.List;
import java.util.Map;
import java.util.Set;
import java.util.TreeMap;
import java.util.TreeSet;
import java.util.regex.Matcher;
import java.util.regex.Pattern;

/** Holds README.md to the program (what its example shows is answered) and to the document (its table of calls). */
public final class ReadmeExample {
    private static final Path FILE = Path.of("README.md");
    private static final Pattern EXAMPLE = Pattern.compile("(?s)\n```java\n(.*?)\n```\n");
    private static final String MAKES_THE_OBJECT = "FairQueue queue = new FairQueue();";
    private static final Pattern CALL = Pattern.compile("queue\\.(\\w+)\\(([^()]*)\\);\\s+// (-?[0-9]+)(?:: (.+))?");
    private static final Pattern ROW = Pattern.compile("(?m)^\\| `(\\w+\\([^()]*\\))` \\| [^|]+ \\|([^|]*)\\|$");
    private static final Pattern FINDING = Pattern.compile("\\b(BEYOND|NONE|STATE|FULL|KIND)\\b");
    private static final List<String> NAMES = List.of("BEYOND", "NONE", "STATE", "FULL", "KIND");
    private static final long LOW = -1000000000L;
    private static final int PROMISES = 26;

    private static int wrong = 0;

    private static void due(String what, boolean holds) {
        if (!holds) {
            wrong++;
            System.out.println("README.md: " + what);
        }
    }

    private static Map<String, Method> calls() {
        Map<String, Method> all = new TreeMap<>();
        for (Method method : FairQueue.class.getDeclaredMethods()) {
            if (Modifier.isPublic(method.getModifiers())) {
                all.put(method.getName(), method);
            }
        }
        return all;
    }

    private static List<String> parts(String commas) {
        return commas.isBlank() ? List.of() : List.of(commas.strip().split("\\s*,\\s*"));
    }

    private static Object value(String text, Class<?> type) {
        if (type == int.class && text.matches("-?[0-9]+")) {
            return Integer.valueOf(text);
        }
        return type == boolean.class && text.matches("true|false") ? Boolean.valueOf(text) : null;
    }

    /** The arguments that stand in a call, or null if they aren't those that the method takes. */
    private static Object[] arguments(Method method, List<String> texts) {
        Class<?>[] types = method.getParameterTypes();
        if (texts.size() != types.length) {
            return null;
        }
        Object[] values = new Object[types.length];
        for (int i = 0; i < types.length; i++) {
            values[i] = value(texts.get(i), types[i]);
            if (values[i] == null) {
                return null;
            }
        }
        return values;
    }

    /** What is said behind a finding begins with its name. */
    private static boolean isNamed(long answer, String said) {
        if (answer >= LOW) {
            return true;
        }
        int place = (int) (LOW - answer) - 1;
        return place < NAMES.size() && said != null && said.startsWith(NAMES.get(place));
    }

    private static void askLine(String line, FairQueue queue, Map<String, Method> calls) throws Exception {
        Matcher call = CALL.matcher(line);
        if (!call.matches()) {
            due("no call with its answer: " + line, false);
            return;
        }
        Method method = calls.get(call.group(1));
        Object[] arguments = method == null ? null : arguments(method, parts(call.group(2)));
        if (arguments == null) {
            due("no such call: " + line, false);
            return;
        }
        long answer = (long) method.invoke(queue, arguments);
        due("answered is " + answer + ": " + line, String.valueOf(answer).equals(call.group(3)));
        due("the finding has another name: " + line, isNamed(answer, call.group(4)));
    }

    /** Every line is empty, a comment, or a call with what it answers, but for the one that makes the object. */
    private static void askExample(String example) throws Exception {
        Map<String, Method> calls = calls();
        Set<String> unused = new TreeSet<>(calls.keySet());
        List<String> lines = new ArrayList<>(example.lines().toList());
        due("the example begins with: " + MAKES_THE_OBJECT, lines.remove(0).equals(MAKES_THE_OBJECT));
        FairQueue queue = new FairQueue();
        for (String line : lines) {
            if (!line.isBlank() && !line.startsWith("// ")) {
                askLine(line, queue, calls);
                unused.remove(line.replaceFirst("^queue\\.", "").replaceFirst("\\(.*$", ""));
            }
        }
        due("the example doesn't show " + unused, unused.isEmpty());
    }

    private static List<String> findingsIn(String text) {
        return FINDING.matcher(text).results().map(found -> found.group(1)).toList();
    }

    /** The calls of the document's promises, without types, each with its findings. */
    private static Map<String, List<String>> promised() throws Exception {
        Document document = new Document();
        Map<String, List<String>> all = new TreeMap<>();
        for (int number = 2; number <= PROMISES; number++) {
            String form = document.formOf(number).replaceAll("\\b(long|int|boolean) ", "");
            all.put(form, findingsIn(String.join(". ", document.ofPromise(number))));
        }
        return all;
    }

    private static void askTable(String readme) throws Exception {
        Map<String, List<String>> due = promised();
        Map<String, List<String>> told = new TreeMap<>();
        for (Matcher row = ROW.matcher(readme); row.find();) {
            due("twice in the table: " + row.group(1), told.put(row.group(1), parts(row.group(2))) == null);
        }
        due("the table tells " + told + ", the document " + due, told.equals(due));
    }

    private static void askNames(String readme) {
        for (int i = 0; i < NAMES.size(); i++) {
            String told = (LOW - 1 - i) + " " + NAMES.get(i);
            due("doesn't say " + told, readme.contains(told));
        }
    }

    public static void main(String[] args) throws Exception {
        String readme = Files.readString(FILE);
        List<String> examples = EXAMPLE.matcher(readme).results().map(found -> found.group(1)).toList();
        due("has " + examples.size() + " examples, not one", examples.size() == 1);
        for (String example : examples) {
            askExample(example);
        }
        askTable(readme);
        askNames(readme.replaceAll("(?s)```.*?```", "").replaceAll("\\s+", " "));
        if (wrong > 0) {
            System.exit(1);
        }
        System.out.println("README.md shows what the program answers");
    }
}
