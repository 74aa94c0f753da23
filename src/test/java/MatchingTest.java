import java.util.List;

/** Promises 10 to 12: match, matched, instance. */
public final class MatchingTest {
    public static void main(String[] args) {
        found();
        several();
        inOrder();
        limits();
        refusals();
        stays();
        matched();
        instance();
        deepFunctions();
        deepSums();
        Run.end();
    }

    private static void matchers(String pattern, String term, String variables, String... due) {
        Run run = new Run();
        run.read(pattern, 0);
        run.read(term, 1);
        String call = "match of " + pattern + " and " + term;
        int count = run.terms.match(0, 1);
        Run.due(call, count, due.length);
        List<String> all = run.matchers(count, variables, 2);
        for (int i = 0; i < Math.min(count, due.length); i++) {
            Run.due(call + ", " + i, all.get(i), due[i]);
            Run.due(call + ", NODES of the instance", run.terms.instance(i, 0, 3), run.terms.told(1, 3));
            Run.due(call + ", instance " + i, run.terms.order(3, 1), 0);
        }
    }

    private static void found() {
        matchers("x", "a", "x", "x=a");
        matchers("x", "b*a+c", "x", "x=c+a*b");
        matchers("a", "a", "", "");
        matchers("a", "b", "");
        matchers("f(x,y)", "f(a,b)", "xy", "x=a y=b");
        matchers("f(x,x)", "f(a,b)", "x");
        matchers("f(x,x)", "f(a+b,b+a)", "x", "x=a+b");
        matchers("f(x)", "g(a)", "x");
        matchers("f(x)", "f(a,b)", "x");
        matchers("x+y", "a*b", "xy");
        matchers("x+y", "a", "xy");
        matchers("x+a", "a+b", "x", "x=b");
        matchers("x+a", "b+c", "x");
        matchers("x+a", "a+b*c", "x", "x=b*c");
        matchers("x+a+a", "a+b+c", "x");
        matchers("x*y+f(x)", "f(b)+a*b", "xy", "x=b y=a");
        matchers("f(x+y)", "f(a)", "xy");
        matchers("x+f(y)", "f(a)+f(b)", "xy", "x=f(a) y=b", "x=f(b) y=a");
    }

    private static void several() {
        matchers("x+x", "a+a+b+b", "x", "x=a+b");
        matchers("x+x", "a+a+b", "x");
        matchers("x+x+y", "a+a+b+b", "xy", "x=a y=b+b", "x=b y=a+a");
        matchers("f(x)+f(x)", "f(a)+f(a)", "x", "x=a");
        matchers("f(x)+f(x)", "f(a)+f(b)", "x");
        matchers("f(x)+f(y)", "f(a)+f(a)", "xy", "x=a y=a");
        matchers("x+y", "a+a", "xy", "x=a y=a");
        matchers("f(x+y,x*z)", "f(a+b+c,(a+c)*d)", "xyz", "x=a+c y=b z=d");
        matchers("x*y", "a*(b+c)", "xy", "x=a y=b+c", "x=b+c y=a");
        matchers("x*x*(y+y)", "a*a*b*b*(c+c+d+d)", "xy", "x=a*b y=c+d");
        matchers("h(x,y,z+u)", "h(a,b,a+b)", "uxyz", "u=a x=a y=b z=b", "u=b x=a y=b z=a");
    }

    private static void inOrder() {
        matchers("x+y", "a+b+c", "xy", "x=a y=b+c", "x=b y=a+c", "x=c y=a+b", "x=a+b y=c", "x=a+c y=b", "x=b+c y=a");
        matchers("y+x", "e+a*b+f(c)", "xy", "x=e y=f(c)+a*b", "x=f(c) y=e+a*b",
                "x=e+f(c) y=a*b", "x=e+a*b y=f(c)", "x=f(c)+a*b y=e", "x=a*b y=e+f(c)");
        matchers("P+u", "a+b", "uP", "u=a P=b", "u=b P=a");
        matchers("x+y+z", "a+b+c", "xyz", "x=a y=b z=c", "x=a y=c z=b", "x=b y=a z=c", "x=b y=c z=a",
                "x=c y=a z=b", "x=c y=b z=a");
    }

    private static void limits() {
        Run run = new Run();
        run.read("f(x+y,z+w)", 0);
        run.read("f(a+a+b+c,d+d+d+d+d+d)", 1);
        Run.due("50 MATCHERS", run.terms.match(0, 1), 50);
        Run.due("the last one", run.terms.matched(49, 4, 2) > 0 ? 1 : 0, 1);
        Run.due("none behind it", run.terms.matched(50, 4, 2), -1);
        run.read("w+x+y+y+z", 0);
        run.read("a+a+a+a+a+b+f(b)", 1);
        Run.due("51 MATCHERS", run.terms.match(0, 1), -4);
        Run.due("by FULL there are none", run.terms.matched(0, 4, 2), -1);
        Run.due("by FULL there are none", run.terms.instance(0, 0, 2), -1);
        run.read("u+v+w+x", 0);
        run.read("a+b+c+d+e+f(a)+f(b)+f(c)", 1);
        Run.due("40824 MATCHERS", run.terms.match(0, 1), -4);
        run.read("f(u+v+w+x,u+v+w+x)", 0);
        run.read("f(a+b+c+d+e+f(a)+f(b),a+b+c+d+e+f(a)+f(c))", 1);
        Run.due("many ways that end nowhere", run.terms.match(0, 1), 0);
    }

    private static void refusals() {
        Run run = new Run();
        AcTerms terms = run.terms;
        run.read("x+y+z+u+v", 0);
        run.read("a+b", 1);
        run.read("x+y", 2);
        Run.due("NOT: 5 VARIABLES", terms.match(0, 1), -3);
        Run.due("NOT: the TERM has VARIABLES", terms.match(2, 2), -3);
        Run.due("NONE pattern", terms.match(9, 1), -2);
        Run.due("NONE term", terms.match(0, 9), -2);
        Run.due("BAD pattern", terms.match(-1, 9), -1);
        Run.due("BAD term", terms.match(9, 16), -1);
    }

    private static void stays() {
        Run run = new Run();
        AcTerms terms = run.terms;
        run.read("x+a", 0);
        run.read("a+b", 1);
        run.read("u+v+w+x+y", 2);
        Run.due("found", terms.match(0, 1), 1);
        terms.match(16, 1);
        terms.match(9, 1);
        terms.match(2, 1);
        terms.match(0, 2);
        Run.due("by BAD, NONE, NOT those of before stay", terms.matched(0, 3, 3), 1);
        Run.due("x", run.printed(3), "b");
        run.read("c", 0);
        run.read("c", 1);
        Run.due("they stay when the SLOTS change", terms.matched(0, 3, 0), 1);
        Run.due("x", run.printed(0), "b");
        run.read("d", 4);
        Run.due("none found", terms.match(0, 4), 0);
        Run.due("those of before are gone", terms.matched(0, 3, 3), -1);
    }

    private static void matched() {
        Run run = new Run();
        AcTerms terms = run.terms;
        run.read("f(x,P)", 0);
        run.read("f(a+b,c)", 1);
        terms.match(0, 1);
        Run.due("NODES", terms.matched(0, 3, 2), 3);
        Run.due("what is put", run.printed(2), "a+b");
        Run.due("the last VARIABLE", terms.matched(0, 21, 2), 1);
        Run.due("NONE: not in the PATTERN", terms.matched(0, 4, 2), -2);
        Run.due("it leaves the SLOT", run.printed(2), "c");
        Run.due("MATCHER -1", terms.matched(-1, 3, 2), -1);
        Run.due("MATCHER 1", terms.matched(1, 3, 2), -1);
        Run.due("VARIABLE -1", terms.matched(0, -1, 2), -1);
        Run.due("VARIABLE 22", terms.matched(0, 22, 2), -1);
        Run.due("BAD ahead of NONE", terms.matched(0, 4, 16), -1);
        Run.due("to -1", terms.matched(0, 3, -1), -1);
    }

    private static void instance() {
        Run run = new Run();
        AcTerms terms = run.terms;
        run.read("f(x,y)", 0);
        run.read("f(a+b+c,d*e)", 1);
        terms.match(0, 1);
        run.read("g(x+y+z)*y", 2);
        Run.due("NODES", terms.instance(0, 2, 3), 12);
        Run.due("a SUM in a SUM, a PRODUCT in a PRODUCT", run.printed(3), "d*e*g(z+a+b+c+d*e)");
        Run.due("to itself", terms.instance(0, 2, 2), 12);
        Run.due("others stay", run.printed(2), run.printed(3));
        run.read("x+x+u+v", 4);
        Run.due("8 PARTS", terms.instance(0, 4, 4), 9);
        run.read("x+x+u+v+w", 5);
        Run.due("9 PARTS", terms.instance(0, 5, 6), -4);
        Run.due("FULL leaves the SLOT", terms.told(6, 0), -2);
        run.read("x*x*x*x*x*x*x*u", 7);
        Run.due("30 NODES", terms.instance(0, 7, 6), 30);
        run.read("x*x*x*x*x*x*x*f(f(x+y)+u)", 7);
        Run.due("40 NODES", terms.instance(0, 7, 6), 40);
        run.read("x*x*x*x*x*x*x*f(f(f(x+y)+u))", 7);
        Run.due("41 NODES", terms.instance(0, 7, 6), -4);
        Run.due("FULL leaves the SLOT", terms.told(6, 3), 40);
        Run.due("NONE", terms.instance(0, 15, 6), -2);
        Run.due("MATCHER 1", terms.instance(1, 0, 6), -1);
        Run.due("MATCHER -1", terms.instance(-1, 0, 6), -1);
        Run.due("SLOT 16", terms.instance(0, 16, 6), -1);
        Run.due("BAD ahead of NONE", terms.instance(0, 15, -1), -1);
    }

    /** A FUNCTION in a FUNCTION, 39 times, is as deep as a TERM can be. */
    private static void deepFunctions() {
        Run run = new Run();
        AcTerms terms = run.terms;
        run.read("f(f(f(f(f(f(f(f(x))))))))", 0);
        run.read("f(x)", 1);
        run.read("x", 2);
        run.read("a", 3);
        for (int nodes = 1; nodes < 40; nodes += nodes < 33 ? 8 : 1) {
            Run.due("match", terms.match(2, 3), 1);
            Run.due("instance", terms.instance(0, nodes < 33 ? 0 : 1, 3), nodes < 33 ? nodes + 8 : nodes + 1);
        }
        Run.due("match", terms.match(2, 3), 1);
        Run.due("41 NODES", terms.instance(0, 1, 3), -4);
        Run.due("print", terms.print(3), 39 * 3 + 1);
        Run.due("its only CONSTANT", terms.out(2 * 39), 'a');
        Run.due("EQUAL to itself", terms.order(3, 3), 0);
        Run.due("match by 8 FUNCTIONS", terms.match(0, 3), 1);
        Run.due("what is put", terms.matched(0, 3, 4), 32);
        Run.due("less deep", terms.order(3, 4), 2);
        Run.due("less deep", terms.order(4, 3), 1);
        Run.due("match with itself", terms.match(3, 3), 1);
        Run.due("PART", terms.part(3, 0, 4), 39);
        Run.due("match with a PART", terms.match(3, 4), 0);
    }

    /** SUMS of PRODUCTS of SUMS, by turns, are as deep as a PATTERN can be. */
    private static void deepSums() {
        Run run = new Run();
        AcTerms terms = run.terms;
        String[] letters = {"x", "y", "z", "P"};
        String[] puts = {"a", "b", "c", "d"};
        run.read("x", 0);
        run.read("a", 1);
        for (int n = 1; n < 20; n++) {
            run.read(letters[n % 4], 2);
            run.read(puts[n % 4], 3);
            Run.due("join", terms.join(0, 2, n % 2, 0), 2 * n + 1);
            Run.due("join", terms.join(1, 3, n % 2, 1), 2 * n + 1);
        }
        int found = terms.match(0, 1);
        Run.due("match", found > 0 ? 1 : 0, 1);
        int seen = 0;
        for (int i = 0; i < found; i++) {
            Run.due("NODES", terms.instance(i, 0, 4), 39);
            Run.due("instance EQUAL to the TERM", terms.order(4, 1), 0);
            terms.matched(i, 3, 5);
            seen += run.printed(5).equals("a") ? 1 : 0;
        }
        Run.due("x may be a", seen > 0 ? 1 : 0, 1);
        Run.due("a deep TERM is only itself", terms.match(1, 1), 1);
    }
}
