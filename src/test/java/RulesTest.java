import java.lang.reflect.Constructor;
import java.lang.reflect.Field;
import java.lang.reflect.Method;
import java.lang.reflect.Modifier;
import java.nio.charset.StandardCharsets;
import java.nio.file.Files;
import java.nio.file.Path;
import java.util.TreeSet;
import java.util.regex.Matcher;
import java.util.regex.Pattern;

/** The rules of LANGUAGE.md that can be seen in the source or in the compiled class. */
public final class RulesTest {
    private static final String SOURCE = "src/main/java/NamesApart.java";
    private static final String FACE = "int feed(long,int) int name(int) int ofName(int,int) int sound(int,int) int clash(int,int)"
        + " int strike(int,int) int person(int,int) int ofPerson(int,int) int as(int,int) int call(int,int) int near(int,int,int)"
        + " int nears(int) int worth(int,int) int lawful() int text(int) int law(int,int,int,int) int first(int) int all()"
        + " int best(int) int fewest(int) int give(int) int changes(int,int) int side(int) long rows(int) long made(int,int,int)"
        + " int strikes(int) int births(int) int seed(int) int voice(int,int,int) int trace(int) int sheet(int,int,int)"
        + " int put(int,int,int) int move(int,int,int,int,int) int image() int restore() int tell(int) int check() int count(int)"
        + " int told(int)";
    private static final Due DUE = new Due();

    public static void main(String[] args) throws Exception {
        face();
        classes();
        String code = bare(Files.readString(Path.of(SOURCE), StandardCharsets.US_ASCII));
        words(code);
        library(code);
        lengths(code);
        DUE.end();
    }

    private static void ruled(String what, boolean good) {
        DUE.is(what, good ? 1 : 0, 1);
    }

    private static String signature(Method method) {
        StringBuilder text = new StringBuilder(method.getReturnType().getSimpleName());
        text.append(' ').append(method.getName()).append('(');
        Class<?>[] types = method.getParameterTypes();
        for (int k = 0; k < types.length; k++) {
            text.append(k > 0 ? "," : "").append(types[k].getSimpleName());
        }
        return text.append(')').toString();
    }

    private static void face() {
        TreeSet<String> want = new TreeSet<>();
        Matcher each = Pattern.compile("(int|long) \\w+\\([^)]*\\)").matcher(FACE);
        while (each.find()) {
            want.add(each.group());
        }
        DUE.is("the face has 39 methods", want.size(), 39);
        TreeSet<String> got = new TreeSet<>();
        for (Method method : NamesApart.class.getDeclaredMethods()) {
            if (Modifier.isPublic(method.getModifiers())) {
                got.add(signature(method));
            } else {
                ruled("1: private: " + method, Modifier.isPrivate(method.getModifiers()));
            }
        }
        ruled("1: the face: " + got, got.equals(want));
        for (Field field : NamesApart.class.getDeclaredFields()) {
            ruled("1: private: " + field, Modifier.isPrivate(field.getModifiers()));
        }
        Constructor<?>[] makers = NamesApart.class.getDeclaredConstructors();
        ruled("1: one constructor", makers.length == 1 && Modifier.isPublic(makers[0].getModifiers()));
        ruled("1: no parameters", makers[0].getParameterCount() == 0);
        ruled("1: final", Modifier.isFinal(NamesApart.class.getModifiers()));
        ruled("1: no package", NamesApart.class.getPackageName().isEmpty());
    }

    private static void classes() {
        TreeSet<String> publicNames = new TreeSet<>();
        for (Method method : NamesApart.class.getDeclaredMethods()) {
            if (Modifier.isPublic(method.getModifiers())) {
                publicNames.add(method.getName());
            }
        }
        Class<?>[] inside = NamesApart.class.getDeclaredClasses();
        ruled("11: some twelve classes", inside.length + 1 <= 12);
        look(NamesApart.class, publicNames);
        for (Class<?> each : inside) {
            ruled("2: static: " + each, Modifier.isStatic(each.getModifiers()));
            ruled("2: not public: " + each, !Modifier.isPublic(each.getModifiers()));
            look(each, publicNames);
        }
    }

    private static void look(Class<?> each, TreeSet<String> publicNames) {
        int fields = 0;
        for (Field field : each.getDeclaredFields()) {
            boolean constant = Modifier.isStatic(field.getModifiers());
            ruled("5: static fields are final: " + field, !constant || Modifier.isFinal(field.getModifiers()));
            fields += constant ? 0 : 1;
        }
        ruled("11: some twenty fields: " + each, fields <= 20);
        for (Method method : each.getDeclaredMethods()) {
            ruled("11: seven parameters: " + method, method.getParameterCount() <= 7);
            boolean ofFace = Modifier.isPublic(method.getModifiers()) && each == NamesApart.class;
            ruled("1: a name of the face: " + method, ofFace || !publicNames.contains(method.getName()));
        }
    }

    /** The source without comments, texts and signs. */
    private static String bare(String source) {
        return source.replaceAll("(?s)/\\*.*?\\*/", "").replaceAll("//[^\n]*", "").replaceAll("'(\\\\.|[^'])'", "' '");
    }

    private static void words(String code) {
        String[] never = {"throw", "throws", "try", "catch", "finally", "synchronized", "assert", "volatile", "native",
            "protected", "double", "float", "Object", "var", "goto", "hashCode", "toString", "Thread", "System.out", "Random"};
        for (String word : never) {
            ruled("6: " + word, !Pattern.compile("\\b" + Pattern.quote(word) + "\\b").matcher(code).find());
        }
        ruled("2: no lambda", !code.contains("->"));
        ruled("2: no method reference", !code.contains("::"));
        ruled("5: no static block", !Pattern.compile("static\\s*\\{").matcher(code).find());
        ruled("4: no text", code.indexOf('"') < 0);
        ruled("9: no loop without an end", !Pattern.compile("while\\s*\\(true|for\\s*\\(\\s*;").matcher(code).find());
    }

    private static void library(String code) {
        Matcher each = Pattern.compile("\\b(Math|Integer|Long|System|Arrays)\\.(\\w+)").matcher(code);
        TreeSet<String> known = new TreeSet<>(java.util.List.of("Math.max", "Math.min", "Integer.bitCount", "System.arraycopy",
            "Arrays.fill"));
        while (each.find()) {
            ruled("4: " + each.group(), known.contains(each.group()));
        }
        Matcher imports = Pattern.compile("import ([^;]+);").matcher(code);
        while (imports.find()) {
            ruled("4: " + imports.group(), imports.group(1).equals("java.util.Arrays"));
        }
        // What is made is made with the object: no call makes anything.
        String calls = code.replaceFirst("(?s)public NamesApart\\(\\) \\{.*?\\n    \\}", "");
        Matcher makes = Pattern.compile("[^\\n]*\\bnew [^\\n]*").matcher(calls);
        while (makes.find()) {
            ruled("12: made as a field: " + makes.group(), makes.group().matches(" +(private )?final .* = new .*;"));
        }
    }

    private static void lengths(String code) {
        String[] lines = code.split("\n");
        int from = -1;
        for (int k = 0; k < lines.length; k++) {
            if (from < 0 && lines[k].matches("    (    )?(public|private|static|boolean|int|long|void|Text).*\\) \\{")) {
                from = k;
            }
            if (from >= 0 && lines[k].matches("    (    )?\\}")) {
                ruled("11: some sixty lines: " + lines[from], k - from < 60);
                from = -1;
            }
        }
    }
}
