import java.lang.reflect.Constructor;
import java.lang.reflect.Field;
import java.lang.reflect.Method;
import java.lang.reflect.Modifier;
import java.nio.file.Files;
import java.nio.file.Path;
import java.util.Arrays;
import java.util.TreeSet;
import java.util.regex.Matcher;
import java.util.regex.Pattern;

/** The rules of LANGUAGE.md that can be seen from the face of the class and from the words of its file. */
public final class LanguageTest {
    private static final String[] FACE = {"base", "bases", "instance", "join", "match", "matched", "number", "order",
        "out", "part", "print", "read", "set", "solution", "solve", "system", "told", "type", "unified", "unify"};
    private static final String[] CONSTANTS = {"BAD", "FULL", "NONE", "NOT"};
    private static final String[] FORBIDDEN = {"\\bthrow\\b", "\\bthrows\\b", "\\btry\\b", "\\bcatch\\b", "\\bsynchronized\\b",
        "\\bassert\\b", "\\bpackage\\b", "\\bimport\\b", "->", "::", "\\bhashCode\\b", "\\btoString\\b", "Exact\\b",
        "\\bMath\\.random\\b", "\\bcurrentTimeMillis\\b", "\\bnanoTime\\b", "\\bThread\\b", "\\bvar\\b", "\\bstatic \\{"};

    public static void main(String[] args) throws Exception {
        face();
        words();
        Run.end();
    }

    private static boolean isSeen(int modifiers) {
        return !Modifier.isPrivate(modifiers);
    }

    private static void face() {
        TreeSet<String> methods = new TreeSet<>();
        int overloaded = 0;
        for (Method method : AcTerms.class.getDeclaredMethods()) {
            if (isSeen(method.getModifiers())) {
                overloaded += methods.add(method.getName()) && Modifier.isPublic(method.getModifiers()) ? 0 : 1;
            }
        }
        Run.due("the methods", methods.toString(), Arrays.toString(FACE));
        Run.due("no other ones of their names", overloaded, 0);
        TreeSet<String> fields = new TreeSet<>();
        for (Field field : AcTerms.class.getDeclaredFields()) {
            if (isSeen(field.getModifiers())) {
                fields.add(field.getName());
            }
        }
        Run.due("the constants", fields.toString(), Arrays.toString(CONSTANTS));
        Constructor<?>[] constructors = AcTerms.class.getDeclaredConstructors();
        Run.due("one constructor", constructors.length, 1);
        Run.due("without parameters", constructors[0].getParameterCount(), 0);
        Run.due("the class is public and final", AcTerms.class.getModifiers(), Modifier.PUBLIC | Modifier.FINAL);
        Class<?>[] inside = AcTerms.class.getDeclaredClasses();
        Run.due("some twelve classes", inside.length + 1 <= 12 ? 1 : 0, 1);
        for (Class<?> one : inside) {
            insideClass(one);
        }
    }

    private static void insideClass(Class<?> one) {
        Run.due(one + " is static", Modifier.isStatic(one.getModifiers()) ? 1 : 0, 1);
        int fields = 0;
        for (Field field : one.getDeclaredFields()) {
            boolean isStatic = Modifier.isStatic(field.getModifiers());
            fields += isStatic ? 0 : 1;
            Run.due(field + ", if static, is final", !isStatic || Modifier.isFinal(field.getModifiers()) ? 1 : 0, 1);
        }
        Run.due(one + " has some twenty fields", fields <= 20 ? 1 : 0, 1);
        for (Method method : one.getDeclaredMethods()) {
            Run.due(method + " has its own name", Arrays.asList(FACE).contains(method.getName()) ? 1 : 0, 0);
            Run.due(method + " has seven parameters at most", method.getParameterCount() <= 7 ? 1 : 0, 1);
        }
    }

    private static void words() throws Exception {
        String source = Files.readString(Path.of("src/main/java/AcTerms.java"));
        String code = source.replaceAll("(?s)/\\*.*?\\*/", "").replaceAll("//[^\n]*", "").replaceAll("\"[^\"\n]*\"", "\"\"");
        for (String forbidden : FORBIDDEN) {
            Matcher matcher = Pattern.compile(forbidden).matcher(code);
            Run.due("uses of " + forbidden, matcher.find() ? 1 : 0, 0);
        }
        int since = 0;
        int longest = 0;
        for (String line : source.split("\n")) {
            since = line.matches("( {4}| {8})(private|public).*\\{") ? 0 : since + 1;
            longest = line.matches("( {4}| {8})\\}") ? Math.max(longest, since) : longest;
        }
        Run.due("methods stay short", longest <= 60 ? 1 : 0, 1);
    }
}
