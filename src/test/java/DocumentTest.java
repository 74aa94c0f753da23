import java.io.IOException;
import java.lang.reflect.Field;
import java.lang.reflect.Method;
import java.lang.reflect.Modifier;
import java.nio.file.DirectoryStream;
import java.nio.file.Files;
import java.nio.file.Path;
import java.util.ArrayList;
import java.util.Arrays;
import java.util.List;
import java.util.TreeSet;
import java.util.regex.Matcher;
import java.util.regex.Pattern;

/** The document itself: its face is that of the class, and no word of its promises stays without a test that names it. */
public final class DocumentTest {
    private static final String DOCUMENT = "../shared/DOC.md";
    private static final String TESTS = "src/test/java";
    private static final Pattern NAMED = Pattern.compile("Run\\.sentence\\(((?:\\s*\\+?\\s*\"[^\"]*\")+)\\)");
    /** Headings, fences, the calls' heads, and the lines that tell where the interface has its headings. */
    private static final Pattern NO_PROMISE =
            Pattern.compile("(?m)^#.*$|^```.*$|^`[^`]*`|^==== \\d( TERMS\\.)?|^Ahead of the calls.*$");

    public static void main(String[] args) throws Exception {
        String document = Files.readString(Path.of(DOCUMENT));
        face(between(document, "```java", "```"));
        List<String> named = named();
        for (String words : named) {
            Run.due("\"" + words + "\" stands in the document", document.contains(words) ? 1 : 0, 1);
        }
        unnamed(between(document, "## What it is", "An object is used"), named);
        unnamed(between(document, "## Terms", "## Not promised"), named);
        Run.end();
    }

    private static String between(String text, String from, String to) {
        int begin = text.indexOf(from);
        int end = begin < 0 ? -1 : text.indexOf(to, begin + from.length());
        Run.due(from + " .. " + to + " stands there", end < 0 ? 0 : 1, 1);
        return end < 0 ? "" : text.substring(begin + from.length(), end);
    }

    private static void face(String face) throws Exception {
        TreeSet<String> calls = new TreeSet<>();
        TreeSet<String> dueCalls = new TreeSet<>();
        Matcher call = Pattern.compile("public (\\w+ \\w+\\([^)]*\\));").matcher(face);
        while (call.find()) {
            dueCalls.add(call.group(1).replaceAll("(\\w+) \\w+([,)])", "$1$2"));
        }
        for (Method method : AcTerms.class.getDeclaredMethods()) {
            if (Modifier.isPublic(method.getModifiers())) {
                calls.add(shown(method));
            }
        }
        Run.due("calls", calls.toString(), dueCalls.toString());
        Run.due("how many", calls.size(), 20);
        Matcher constant = Pattern.compile("(\\w+) = (-?\\d+)").matcher(face);
        while (constant.find()) {
            Field field = AcTerms.class.getField(constant.group(1));
            Run.due(field.getName(), field.getInt(null), Integer.parseInt(constant.group(2)));
        }
    }

    private static String shown(Method method) {
        List<String> types = new ArrayList<>();
        for (Class<?> type : method.getParameterTypes()) {
            types.add(type.getName());
        }
        return method.getReturnType().getName() + " " + method.getName() + "(" + String.join(", ", types) + ")";
    }

    /** What the tests give to Run.sentence(). */
    private static List<String> named() throws IOException {
        List<String> all = new ArrayList<>();
        try (DirectoryStream<Path> tests = Files.newDirectoryStream(Path.of(TESTS), "*Test.java")) {
            for (Path test : tests) {
                Matcher matcher = NAMED.matcher(Files.readString(test));
                while (matcher.find()) {
                    all.add(matcher.group(1).strip().replaceAll("\"\\s*\\+\\s*\"", "").replaceAll("^\"|\"$", ""));
                }
            }
        }
        return all;
    }

    private static void unnamed(String text, List<String> named) {
        boolean[] done = new boolean[text.length()];
        Matcher matcher = NO_PROMISE.matcher(text);
        while (matcher.find()) {
            Arrays.fill(done, matcher.start(), matcher.end(), true);
        }
        for (String words : named) {
            for (int at = text.indexOf(words); at >= 0 && !words.isEmpty(); at = text.indexOf(words, at + 1)) {
                Arrays.fill(done, at, at + words.length(), true);
            }
        }
        StringBuilder left = new StringBuilder();
        for (int i = 0; i < done.length; i++) {
            left.append(done[i] || !Character.isLetterOrDigit(text.charAt(i)) ? ' ' : text.charAt(i));
        }
        Run.due("words that no test names", left.toString().replaceAll("\\s+", " ").strip(), "");
    }
}
