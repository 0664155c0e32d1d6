import java.lang.reflect.InvocationTargetException;
import java.lang.reflect.Method;
import java.util.ArrayList;
import java.util.List;
import java.util.Random;

/** Runs of calls, the same each time, answered by the class and by the Model. */
public final class ModelTest {
    private static final int RUNS = 400;
    private static final int CALLS = 512;
    /** A step may feed fifty bytes, and then ask: nothing is promised behind the 512th call. */
    private static final int CALLS_OF_A_STEP = 8;
    /** Each call's name as often as it shall come. */
    private static final String CALLS_OFTEN = "feed*10 name*8 ofName*2 sound*2 clash strike*3 person*5 ofPerson*3 as*2 call*8"
        + " near*8 nears*2 worth*3 lawful*2 text*5 law*4 first*3 all*3 best*5 fewest*4 give*2 changes*4 side*2 rows made*3"
        + " strikes births*2 seed voice*4 trace*3 sheet*3 put*6 move*4 image restore tell*8 check*3 count*4 told*2";
    private static final String[] WORDS = {"a", "b", "cd", "anna", "otto", "eve", "il", "xyz", "nora", "uwe", "abcdefgh",
        "ijk", "lmnop", "q", "rst", "uvw", "banana", "zz", "Bob", "abcdefghi", "m-m"};
    private static final String[] PARTS = {"p", "q", "i", "s", "l", "w", "1", "20", "300", "4096", "12345", "!", "(", ")", "(",
        ")", "+", "-", "*", "/", "%", "<", "=", ">", "|", "&", " "};

    private final Random random;
    private final NamesApart real = new NamesApart();
    private final Model model = new Model();
    private final List<String> log = new ArrayList<>();
    /** How wild a run's numbers are, and how many NAMES it makes. */
    private final int wildness;
    private final int mostNames;
    private int names;

    private ModelTest(int seed) {
        random = new Random(seed);
        wildness = seed % 3 == 0 ? 6 : 40;
        // Givings of all 14 NAMES take the Model long, so only some runs go so far.
        mostNames = seed % 8 == 0 ? 14 : 3 + random.nextInt(5);
    }

    public static void main(String[] args) throws Exception {
        int runs = args.length > 0 ? Integer.parseInt(args[0]) : RUNS;
        int from = args.length > 1 ? Integer.parseInt(args[1]) : 1;
        int wrong = 0;
        for (int seed = from; seed < from + runs; seed++) {
            String fault = new ModelTest(seed).run();
            if (fault != null && ++wrong <= 3) {
                System.out.println("run " + seed + ": " + fault);
            }
        }
        System.out.println(runs + " runs of " + CALLS + " calls, " + wrong + " not as due");
        if (wrong != 0) {
            System.exit(1);
        }
    }

    private String run() throws Exception {
        List<String> often = new ArrayList<>();
        for (String entry : CALLS_OFTEN.split(" ")) {
            String[] parts = entry.split("\\*");
            for (int k = 0; k < (parts.length > 1 ? Integer.parseInt(parts[1]) : 1); k++) {
                often.add(parts[0]);
            }
        }
        for (int k = 0; k <= CALLS - CALLS_OF_A_STEP; ) {
            String name = often.get(random.nextInt(often.size()));
            int made = step(name);
            if (made < 0) {
                return String.join("\n  ", log.subList(Math.max(0, log.size() - 40), log.size()));
            }
            k += made;
        }
        return null;
    }

    /** How many calls were made, or -1 if the last one was answered wrongly. */
    private int step(String name) throws Exception {
        if (name.equals("name") && random.nextInt(wildness) != 0) {
            if (names >= mostNames) {
                return 0;
            }
            return feedAndThen(word(), "name", random.nextInt(100));
        }
        if (name.equals("text") && random.nextInt(wildness) != 0) {
            int use = random.nextInt(2);
            return feedAndThen(text(use), "text", use);
        }
        if (name.equals("feed") && random.nextInt(4) != 0) {
            return 0;
        }
        return both(name, arguments(name)) ? 1 : -1;
    }

    private int feedAndThen(String text, String call, int argument) throws Exception {
        int calls = 0;
        for (int from = 0; from < text.length(); from += 8) {
            String part = text.substring(from, Math.min(text.length(), from + 8));
            calls++;
            if (!both("feed", Due.word(part), part.length())) {
                return -1;
            }
        }
        return both(call, argument) ? calls + 1 : -1;
    }

    private String word() {
        if (random.nextInt(3) == 0) {
            return WORDS[random.nextInt(WORDS.length)];
        }
        StringBuilder word = new StringBuilder();
        int length = 1 + random.nextInt(random.nextInt(4) == 0 ? 8 : 3);
        for (int k = 0; k < length; k++) {
            word.append((char) ('a' + random.nextInt(26)));
        }
        return word.toString();
    }

    private String text(int use) {
        StringBuilder text = new StringBuilder();
        if (random.nextInt(4) == 0) {
            int parts = 1 + random.nextInt(12);
            for (int k = 0; k < parts; k++) {
                text.append(PARTS[random.nextInt(PARTS.length)]);
            }
        } else {
            grow(text, use == 0 ? "pqi" : "slw", 1 + random.nextInt(4));
            if (random.nextInt(5) == 0) {
                text.setCharAt(random.nextInt(text.length()), PARTS[random.nextInt(PARTS.length)].charAt(0));
            }
            if (random.nextInt(8) == 0) {
                text.setLength(random.nextInt(text.length()));
            }
        }
        return text.length() > 50 ? text.substring(0, 50) : text.toString();
    }

    private void grow(StringBuilder text, String named, int depth) {
        int kind = random.nextInt(depth > 0 ? 8 : 2);
        if (kind == 0) {
            text.append(random.nextInt(random.nextBoolean() ? 30 : 10000));
        } else if (kind == 1) {
            text.append(named.charAt(random.nextInt(3)));
        } else if (kind == 2) {
            text.append('!');
            grow(text, named, 0);
        } else if (kind == 3) {
            text.append(random.nextBoolean() ? "(" : "!(");
            grow(text, named, depth - 1);
            text.append(')');
        } else {
            grow(text, named, depth - 1);
            text.append("+-*/%<=>|&+-*<|&".charAt(random.nextInt(16)));
            grow(text, named, depth - 1);
        }
    }

    private int any(int from, int to) {
        int wild = random.nextInt(wildness);
        if (wild == 0) {
            int[] edges = {from - 1, to + 1, from, to, Integer.MIN_VALUE, Integer.MAX_VALUE, random.nextInt()};
            return edges[random.nextInt(edges.length)];
        }
        return from + random.nextInt(to - from + 1);
    }

    private int anyone() {
        return any(0, Math.max(0, model.count(1) - 1));
    }

    private int anyName() {
        return any(0, Math.max(0, model.count(0) - 1));
    }

    private int anything() {
        return random.nextInt(3) == 0 ? random.nextInt() : any(-5, 30);
    }

    private long[] arguments(String name) {
        switch (name) {
            case "feed": return new long[] {random.nextLong(), any(1, 3)};
            case "name": return new long[] {any(0, 99)};
            case "ofName": return new long[] {anyName(), any(0, 10)};
            case "sound": return new long[] {anyName(), any(0, 99)};
            case "clash": return new long[] {anyName(), anyName()};
            case "strike": return new long[] {any(0, 25), random.nextInt(3) == 0 ? any(0, 1) : 0};
            case "person": return new long[] {any(0, 6), any(-1, Math.max(0, model.count(1) - 1))};
            case "ofPerson": return new long[] {anyone(), any(0, 4)};
            case "as": return new long[] {anyone(), any(0, 6)};
            case "call": return new long[] {anyone(), random.nextInt(4) == 0 ? -1 : anyName()};
            case "near": return new long[] {anyone(), anyone(), any(0, 1)};
            case "nears": return new long[] {any(0, 3)};
            case "worth": return new long[] {anyone(), anyName()};
            case "law": return new long[] {any(0, 1), anything(), anything(), anything()};
            case "first": return new long[] {anyone()};
            case "best": case "fewest": return new long[] {random.nextInt(3) == 0 ? -1 : anyone()};
            case "give": return new long[] {any(0, 2)};
            case "changes": return new long[] {anyone(), anyName()};
            case "side": return new long[] {any(0, 1)};
            case "rows": return new long[] {any(1, 10)};
            case "made": return made();
            case "strikes": return new long[] {any(0, 25)};
            case "births": return new long[] {any(1, 3)};
            case "seed": return new long[] {anything()};
            case "text": return new long[] {any(0, 1)};
            case "voice": return new long[] {anyone(), any(0, 3), anything()};
            case "trace": return new long[] {any(0, 10)};
            case "sheet": return new long[] {any(0, 3), 8L * any(0, 4), any(0, 12)};
            case "put": return new long[] {any(0, 3), any(0, 7), random.nextInt(6) == 0 ? anything() : anyone()};
            case "move": return new long[] {any(0, 3), any(0, 5), any(0, 3), any(0, 5), any(0, 5)};
            case "tell": return new long[] {anyName()};
            case "count": return new long[] {any(0, 8)};
            case "told": return new long[] {any(1, 5)};
            default: return new long[0];
        }
    }

    private long[] made() {
        int n = any(1, 6);
        int without = random.nextInt(3) == 0 ? 0 : any(0, (1 << 26) - 1);
        return new long[] {n, without, any(-1, Math.max(1, Math.min(6, n)) - 1)};
    }

    private boolean both(String name, long... arguments) throws Exception {
        StringBuilder call = new StringBuilder(name).append('(');
        for (int k = 0; k < arguments.length; k++) {
            call.append(k > 0 ? ", " : "").append(arguments[k]);
        }
        call.append(')');
        Object want = answer(model, name, arguments);
        Object got = answer(real, name, arguments);
        log.add(call + ": " + got + (want.equals(got) ? "" : ", due is " + want));
        if (name.equals("name") || name.equals("restore")) {
            names = model.count(0);
        }
        return want.equals(got);
    }

    private static Object answer(Object object, String name, long[] arguments) throws Exception {
        for (Method method : object.getClass().getDeclaredMethods()) {
            if (method.getName().equals(name) && java.lang.reflect.Modifier.isPublic(method.getModifiers())) {
                Class<?>[] types = method.getParameterTypes();
                Object[] values = new Object[types.length];
                for (int k = 0; k < types.length; k++) {
                    values[k] = types[k] == long.class ? (Object) arguments[k] : (Object) (int) arguments[k];
                }
                method.setAccessible(true);
                try {
                    return method.invoke(object, values);
                } catch (InvocationTargetException thrown) {
                    thrown.getCause().printStackTrace();
                    return "thrown: " + thrown.getCause();
                }
            }
        }
        return "no such call";
    }
}
