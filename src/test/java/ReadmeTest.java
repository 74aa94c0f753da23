import java.lang.reflect.Method;
import java.nio.file.Files;
import java.nio.file.Path;
import java.util.TreeSet;
import java.util.regex.Matcher;
import java.util.regex.Pattern;

/** The example of README.md: each call answers what stands behind it. */
public final class ReadmeTest {
    private static final Pattern CALL = Pattern.compile("(?m)^terms\\.(\\w+)\\(([^)]*)\\);\\s*// (-?\\d+):");

    public static void main(String[] args) throws Exception {
        AcTerms terms = new AcTerms();
        Matcher matcher = CALL.matcher(Files.readString(Path.of("README.md")));
        TreeSet<String> calls = new TreeSet<>();
        while (matcher.find()) {
            Run.due(matcher.group(), answer(terms, matcher.group(1), matcher.group(2).split(", ")),
                    Long.parseLong(matcher.group(3)));
            calls.add(matcher.group(1));
        }
        Run.due("different calls", calls.size(), 20);
        Run.end();
    }

    private static int answer(AcTerms terms, String name, String[] texts) throws Exception {
        for (Method method : AcTerms.class.getMethods()) {
            if (method.getName().equals(name) && method.getParameterCount() == texts.length) {
                Object[] values = new Object[texts.length];
                for (int i = 0; i < values.length; i++) {
                    long value = Long.decode(texts[i].replace("L", ""));
                    values[i] = method.getParameterTypes()[i] == long.class ? (Object) value : (Object) (int) value;
                }
                return (Integer) method.invoke(terms, values);
            }
        }
        throw new IllegalStateException("no call " + name);
    }
}
