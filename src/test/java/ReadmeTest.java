import java.lang.reflect.Method;
import java.lang.reflect.Modifier;
import java.nio.charset.StandardCharsets;
import java.nio.file.Files;
import java.nio.file.Path;
import java.util.Arrays;
import java.util.List;
import java.util.Map;
import java.util.TreeMap;
import java.util.TreeSet;
import java.util.function.Consumer;
import java.util.regex.Matcher;
import java.util.regex.Pattern;
import java.util.stream.Stream;

/** What README.md says holds: its examples, the numbers of its ERRORS, its calls with their ERRORS, the tests it names. */
public final class ReadmeTest {
    private static final Path PAGE = Path.of("README.md");
    private static final Path SOURCE = Path.of("src/main/java/NamesApart.java");
    private static final Path TESTS = Path.of("src/test/java");
    private static final String FRESH = "NamesApart x = new NamesApart();";
    private static final Pattern EXAMPLE = Pattern.compile("x\\.(\\w+)\\((.*)\\); +// (-?\\d+)\\b.*");
    private static final Pattern ERROR = Pattern.compile("\\| ([A-Z]+) +\\| (-\\d+) \\| (\\d) \\| .*");
    private static final Pattern CALL = Pattern.compile("\\| `(\\w+)\\(([^)]*)\\)` \\| .* \\| ([A-Z, ]*)\\|");
    private static final Pattern SIGNATURE = Pattern.compile("    public (?:int|long) (\\w+)\\(([^)]*)\\) \\{");
    private static final List<String> ERRORS = List.of("BEYOND", "NONE", "STATE", "FULL", "KIND");
    private static final List<Consumer<NamesApart>> STORIES = List.of(x -> { }, Stories::busy, Stories::full,
        Stories::fiveNameless, Stories::noGiving);
    // By how many arguments a call takes: enough of each to meet every ERROR, in one of the stories.
    private static final int[][] ARGUMENTS = {
        {},
        {Integer.MIN_VALUE, -2, -1, 0, 1, 2, 3, 4, 5, 6, 8, 10, 11, 14, 20, 25, 26, 41, 100, Integer.MAX_VALUE},
        {-2, -1, 0, 1, 2, 3, 4, 5, 6, 7, 10, 11, 26, 100},
        {-2, -1, 0, 1, 2, 3, 4, 8, 16, 41, (1 << 26) - 1},
        {-1, 0, 1, 2},
        {-1, 0, 1, 3, 41},
    };
    private static final Due DUE = new Due();

    public static void main(String[] args) throws Exception {
        List<String> lines = Files.readAllLines(PAGE, StandardCharsets.US_ASCII);
        examples(lines);
        errors(lines);
        calls(lines);
        tests(lines);
        DUE.end();
    }

    private static void holds(String what, boolean good) {
        DUE.is("README: " + what, good ? 1 : 0, 1);
    }

    private static Map<String, Method> face() {
        Map<String, Method> face = new TreeMap<>();
        for (Method method : NamesApart.class.getDeclaredMethods()) {
            if (Modifier.isPublic(method.getModifiers())) {
                face.put(method.getName(), method);
            }
        }
        return face;
    }

    private static long ask(NamesApart x, Method method, long... numbers) throws ReflectiveOperationException {
        Class<?>[] types = method.getParameterTypes();
        Object[] arguments = new Object[types.length];
        for (int k = 0; k < types.length; k++) {
            if (types[k] == long.class) {
                arguments[k] = numbers[k];
            } else {
                arguments[k] = (int) numbers[k];
            }
        }
        return ((Number) method.invoke(x, arguments)).longValue();
    }

    private static void examples(List<String> lines) throws ReflectiveOperationException {
        NamesApart x = null;
        boolean inside = false;
        int asked = 0;
        for (String line : lines) {
            if (line.startsWith("```")) {
                inside = line.equals("```java");
            } else if (inside && line.equals(FRESH)) {
                x = new NamesApart();
            } else if (inside) {
                asked += example(x, line);
            }
        }
        holds("there are examples: " + asked, asked >= 30);
    }

    private static int example(NamesApart x, String line) throws ReflectiveOperationException {
        Matcher parts = EXAMPLE.matcher(line);
        boolean known = parts.matches() && face().containsKey(parts.group(1));
        holds("an example: " + line, known && x != null);
        if (!known || x == null) {
            return 0;
        }
        Method method = face().get(parts.group(1));
        long[] numbers = Stream.of(parts.group(2).split(", ")).filter(part -> !part.isEmpty())
            .mapToLong(part -> Long.decode(part.replace("L", ""))).toArray();
        holds("as many arguments: " + line, numbers.length == method.getParameterCount());
        if (numbers.length == method.getParameterCount()) {
            DUE.is("README: " + line, ask(x, method, numbers), Long.parseLong(parts.group(3)));
        }
        return 1;
    }

    private static void errors(List<String> lines) {
        int found = 0;
        for (String line : lines) {
            Matcher parts = ERROR.matcher(line);
            if (parts.matches()) {
                found++;
                DUE.is("README: k of " + parts.group(1), Long.parseLong(parts.group(3)), found);
                DUE.is("README: number of " + parts.group(1), Long.parseLong(parts.group(2)), Due.LOW - found);
                holds("ERROR " + parts.group(1), found <= ERRORS.size() && ERRORS.get(found - 1).equals(parts.group(1)));
            }
        }
        DUE.is("README: how many ERRORS", found, ERRORS.size());
    }

    private static void calls(List<String> lines) throws Exception {
        Map<String, String> signatures = signatures();
        Map<String, Method> face = face();
        TreeSet<String> named = new TreeSet<>();
        for (String line : lines) {
            Matcher parts = CALL.matcher(line);
            if (parts.matches()) {
                String call = parts.group(1);
                holds(call + " stands there once", named.add(call));
                holds(call + "(" + parts.group(2) + ") is as in the source", parts.group(2).equals(signatures.get(call)));
                TreeSet<String> told = new TreeSet<>(Arrays.asList(parts.group(3).trim().split(", ")));
                told.remove("");
                if (face.containsKey(call)) {
                    TreeSet<String> met = errorsOf(face.get(call));
                    holds(call + " tells " + told + ", met were " + met, told.equals(met));
                }
            }
        }
        holds("all calls stand there: " + named, named.equals(face.keySet()));
    }

    /** By call: the names of its parameters, as the source has them. */
    private static Map<String, String> signatures() throws Exception {
        Map<String, String> signatures = new TreeMap<>();
        Matcher each = SIGNATURE.matcher(Files.readString(SOURCE, StandardCharsets.US_ASCII));
        while (each.find()) {
            signatures.put(each.group(1), each.group(2).replaceAll("(int|long) ", ""));
        }
        return signatures;
    }

    /** The ERRORS that a call answers, behind some story, to some arguments. */
    private static TreeSet<String> errorsOf(Method method) throws ReflectiveOperationException {
        TreeSet<String> met = new TreeSet<>();
        int many = method.getParameterCount();
        int[] choice = ARGUMENTS[many];
        int rows = (int) Math.pow(choice.length, many);
        for (Consumer<NamesApart> story : STORIES) {
            for (int row = 0; row < rows; row++) {
                long[] numbers = new long[many];
                int rest = row;
                for (int k = 0; k < many; k++) {
                    numbers[k] = choice[rest % choice.length];
                    rest /= choice.length;
                }
                NamesApart x = new NamesApart();
                story.accept(x);
                addErrors(met, x, method, numbers);
            }
        }
        return met;
    }

    private static void addErrors(TreeSet<String> met, NamesApart x, Method method, long[] numbers)
            throws ReflectiveOperationException {
        // An answer may be any number, so what told() tells says whether it was an ERROR.
        int[] was = new int[ERRORS.size() + 1];
        for (int k = 1; k <= ERRORS.size(); k++) {
            was[k] = x.told(k);
        }
        ask(x, method, numbers);
        for (int k = 1; k <= ERRORS.size(); k++) {
            if (x.told(k) != was[k]) {
                met.add(ERRORS.get(k - 1));
            }
        }
    }

    private static void tests(List<String> lines) throws Exception {
        TreeSet<String> named = new TreeSet<>();
        Matcher each = Pattern.compile("`(\\w+Test)`").matcher(String.join("\n", lines));
        while (each.find()) {
            named.add(each.group(1));
        }
        TreeSet<String> there = new TreeSet<>();
        try (Stream<Path> files = Files.list(TESTS)) {
            files.map(file -> file.getFileName().toString()).filter(file -> file.endsWith("Test.java"))
                .forEach(file -> there.add(file.replace(".java", "")));
        }
        holds("the tests: " + named + ", there are " + there, named.equals(there));
        holds("the script of the tests", lines.contains("    .ci/run") && Files.isExecutable(Path.of(".ci/run")));
    }
}
