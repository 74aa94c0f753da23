import java.util.Arrays;
import java.util.Random;

/**
 * What a call finds hangs on nothing that was found before: finds of every sort, one behind the other on one object,
 * each against the same find on a new object.
 */
public final class AgainTest {
    private static final String[] PATTERNS = {"x", "x+y", "x+x+y", "x*y", "f(x)+y", "f(x)+f(y)", "f(x,y)", "f(x+y,z)", "a+b",
        "x*(y+z)", "x+a", "x*a+y", "f(x,x)", "x+f(x+y)", "f(x)+f(x)+z", "h(x,y,z)", "x*f(y)*f(z)", "g(x*y+z)"};
    private static final String[] GROUNDS = {"a", "a+b+c", "a+a+b", "a*b", "f(a)+f(b)", "f(a,b)", "f(a+b,c)", "b+a",
        "a*b*(c+d)", "a+a*b", "f(a,a)", "a+f(a+b)", "f(a)+f(a)+f(b)", "h(a,b+c,c*d)", "a*f(b)*f(c)*f(d)", "g(a*b+c)",
        "f(f(f(f(f(f(f(f(a))))))))", "a+b+c+d+e+f(a)+f(b)+f(c)", "h(f(a),g(b),h(c))+f(g(h(d)))+h(h(e))"};
    private static final String[] SIDES = {"x", "y", "a", "x+y", "u+v", "x+x+a", "y+b", "a+b", "x+a", "u+u+u", "v+v", "x+y+z",
        "a+a", "f(a)+b", "u+v+w+x", "y+z+y+z+y+z", "x+x+x+y", "z+a+b", "x+f(x)", "A", "x*y", "a*b"};
    private static final String[] TEXTS = {"", "((((((((", "a+b", "f(a,b,c", "a+a+a+a+a+a+a+a+a", "f(", "((((((((a))))))))",
        "x*(y+z)", "a+", "f(g(h(a)))", "a*a*a*a*a*a*a*a*a", "Q", "f((a+", "h(a,b,c)"};
    private static final Random RANDOM = new Random(20261116);

    public static void main(String[] args) {
        for (int runs = 0; runs < 1500; runs++) {
            Run used = new Run();
            StringBuilder before = new StringBuilder();
            for (int n = 0; n < 5; n++) {
                findOnBoth(used, before);
            }
        }
        Run.end();
    }

    private static void findOnBoth(Run used, StringBuilder before) {
        switch (RANDOM.nextInt(8)) {
            case 0:
            case 1:
            case 2: {
                String pattern = PATTERNS[RANDOM.nextInt(PATTERNS.length)];
                String ground = GROUNDS[RANDOM.nextInt(GROUNDS.length)];
                before.append("match ").append(pattern).append(' ').append(ground).append("; ");
                Run.due(before.toString(), matched(used, pattern, ground), matched(new Run(), pattern, ground));
                break;
            }
            case 3:
            case 4: {
                String left = SIDES[RANDOM.nextInt(SIDES.length)];
                String right = SIDES[RANDOM.nextInt(SIDES.length)];
                int symbol = RANDOM.nextInt(6) == 0 ? 1 : 0;
                before.append("unify ").append(left).append(' ').append(right).append(' ').append(symbol).append("; ");
                String due = unified(new Run(), left, right, symbol);
                boolean refused = due.startsWith("-3");
                String got = unified(used, left, right, symbol);
                Run.due(before.toString(), refused ? got.substring(0, 2) : got, refused ? "-3" : due);
                break;
            }
            case 5:
            case 6: {
                int[][] rows = rows();
                int span = 1 + RANDOM.nextInt(8);
                before.append("solve ").append(Arrays.deepToString(rows)).append(' ').append(span).append("; ");
                Run.due(before.toString(), solved(used, rows, span), solved(new Run(), rows, span));
                break;
            }
            default: {
                String text = TEXTS[RANDOM.nextInt(TEXTS.length)];
                before.append("read ").append(text).append("; ");
                Run.due(before.toString(), used.read(text, 9), new Run().read(text, 9));
                break;
            }
        }
    }

    private static int[][] rows() {
        int[][] rows = new int[1 + RANDOM.nextInt(3)][1 + RANDOM.nextInt(6)];
        for (int[] row : rows) {
            for (int k = 0; k < row.length; k++) {
                row[k] = RANDOM.nextInt(7) - 3;
            }
        }
        return rows;
    }

    /** How many MATCHERS, and what the first, the second and the last one make of one TERM. */
    private static String matched(Run run, String pattern, String ground) {
        run.read(pattern, 0);
        run.read(ground, 1);
        int count = run.terms.match(0, 1);
        StringBuilder all = new StringBuilder().append(count);
        run.read("f(x,y,z)", 2);
        for (int i = 0; i < count; i += i == 1 ? Math.max(1, count - 2) : 1) {
            int nodes = run.terms.instance(i, 2, 3);
            all.append(' ').append(nodes).append(' ').append(run.printed(3));
        }
        return all.append(' ').append(run.terms.matched(Math.max(0, count), 3, 3)).toString();
    }

    private static String unified(Run run, String left, String right, int symbol) {
        run.read(left, 0);
        run.read(right, 1);
        int count = run.terms.unify(0, 1, symbol);
        StringBuilder all = new StringBuilder().append(count);
        for (int what = 0; what < 3; what++) {
            all.append(' ').append(run.terms.bases(what));
        }
        for (int i = 0; i < Math.min(5, run.terms.bases(0)); i++) {
            for (int j = 0; j < run.terms.bases(2); j++) {
                all.append(' ').append(run.terms.base(i, j));
            }
        }
        for (int i = 0; i < count; i += i == 1 ? Math.max(1, count - 2) : 1) {
            int nodes = run.terms.unified(i, 0, 3);
            all.append(' ').append(run.terms.set(i)).append(' ').append(nodes > 0 ? run.printed(3) : nodes);
        }
        return all.append(' ').append(run.terms.set(Math.max(0, count))).toString();
    }

    private static String solved(Run run, int[][] rows, int span) {
        run.terms.system(rows.length, rows[0].length);
        for (int r = 0; r < rows.length; r++) {
            for (int k = 0; k < rows[r].length; k++) {
                run.terms.number(r, k, rows[r][k]);
            }
        }
        int count = run.terms.solve(span);
        StringBuilder all = new StringBuilder().append(count);
        for (int i = 0; i <= Math.min(count, 5); i++) {
            for (int j = 0; j < rows[0].length; j++) {
                all.append(' ').append(run.terms.solution(i, j));
            }
        }
        return all.toString();
    }
}
