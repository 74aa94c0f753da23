import java.util.List;

/** Each sentence of ==== 2 and of promises 10 to 12 that names a boundary case, with a test of its own. */
public final class MatchingEdgesTest {
    private static final int LEAST = Integer.MIN_VALUE;
    private static final int MOST = Integer.MAX_VALUE;
    private static final int[] NO_SLOTS = {-1, 16, LEAST, MOST};
    /** Two TERMS that a PATTERN of 50, and one of 51, MATCHERS goes with. */
    private static final String[] FIFTY = {"f(x+y,z+w)", "f(a+a+b+c,d+d+d+d+d+d)"};
    private static final String[] FIFTY_ONE = {"w+x+y+y+z", "a+a+a+a+a+b+f(b)"};

    public static void main(String[] args) {
        slots();
        fourVariables();
        withoutVariables();
        oneForOne();
        sumInSum("+", "*");
        sumInSum("*", "+");
        tooSmall();
        timesThatDivide();
        partsThatAreNoVariables();
        manyDifferentTerms();
        manyMatches();
        deepVariable();
        numbered();
        numberedByAllFour();
        howMany();
        not();
        full();
        stay();
        gone();
        matchedBad();
        matchedNone();
        othersStay();
        instanceRefused();
        Run.end();
    }

    private static int matchers(String pattern, String term) {
        return Run.with(pattern, term).terms.match(0, 1);
    }

    private static void finds(String pattern, String term, String variables, String... due) {
        Run run = Run.with(pattern, term);
        String call = "match of " + pattern + " and " + term;
        int count = run.terms.match(0, 1);
        Run.due(call, count, due.length);
        List<String> all = run.matchers(count, variables, 2);
        for (int i = 0; i < Math.min(count, due.length); i++) {
            Run.due(call + ", " + i, all.get(i), due[i]);
            Run.due(call + ", instance", run.terms.instance(i, 0, 3), run.terms.told(1, 3));
            Run.due(call + ", EQUAL", run.terms.order(3, 1), 0);
        }
        Run.due(call + ", none behind the last one", run.terms.instance(due.length, 0, 3), -1);
    }

    // ---- ==== 2

    private static void slots() {
        Run.sentence("SLOTS 0 .. 15 have a TERM or none (at first)");
        Run run = new Run();
        Run.due("none", run.terms.match(0, 15), -2);
        run.read("x+a", 0);
        Run.due("none", run.terms.match(0, 15), -2);
        run.read("a+b", 15);
        Run.due("the first and the last SLOT", run.terms.match(0, 15), 1);
        Run.due("the last SLOT as a PATTERN", run.terms.match(15, 15), 1);
        Run.due("matched to the last SLOT", run.terms.instance(0, 0, 15), 3);
        for (int slot : NO_SLOTS) {
            Run.due("PATTERN " + slot, run.terms.match(slot, 15), -1);
            Run.due("TERM " + slot, run.terms.match(0, slot), -1);
        }
    }

    private static void fourVariables() {
        Run.sentence("MATCHERS of a PATTERN (a TERM of at most 4 different VARIABLES)");
        Run.due("none", matchers("a+b", "b+a"), 1);
        Run.due("4", matchers("f(u,x+P,f(z))", "f(a,a+b,f(c))"), 2);
        Run.due("4 that stand there 8 times", matchers("f(u+u,P*P,g(x,z,x*z))", "f(a+a,b*b,g(c,d,c*d))"), 1);
        Run.due("5", matchers("f(u,x+P,z*v)", "f(a,a+b,c*d)"), -3);
        Run.due("5, the fifth deep inside", matchers("f(u,v,f(w+x,f(f(f(y)))))", "a"), -3);
        Run.due("22", matchers("h(u+v+w+x+y+z+A+B,C+D+E+F+G+H+I+J,K+L+M+N+O+P)", "a"), -3);
    }

    private static void withoutVariables() {
        Run.sentence("and a TERM without VARIABLES");
        Run.due("a VARIABLE", matchers("x", "x"), -3);
        Run.due("the last VARIABLE", matchers("x", "P"), -3);
        Run.due("one deep inside", matchers("x", "f(a,b+c*g(d+u))"), -3);
        Run.due("one, where the PATTERN has none", matchers("a", "a+x"), -3);
        Run.due("none", matchers("x", "f(a,b+c*g(d+e))"), 1);
    }

    private static void oneForOne() {
        Run.sentence("all ways to put TERMS in place of the PATTERN's VARIABLES (one for one)");
        finds("f(x,x)", "f(a,a)", "x", "x=a");
        finds("f(x,x)", "f(a,b)", "x");
        finds("f(x,x*x)", "f(a+b,(a+b)*(b+a))", "x", "x=a+b");
        finds("f(x,y)", "f(a,a)", "xy", "x=a y=a");
        finds("x+y", "a+a", "xy", "x=a y=a");
        finds("x+x+x", "a+a+a+b+b+b", "x", "x=a+b");
        finds("x+x+x", "a+a+a+b+b", "x");
    }

    /** Of SUMS, or of PRODUCTS where the sign is theirs. */
    private static void sumInSum(String sign, String other) {
        Run.sentence("a SUM put in a SUM is no PART: its PARTS are; likewise of PRODUCTS");
        finds("x+a".replace("+", sign), "a+b+c".replace("+", sign), "x", "x=b+c".replace("+", sign));
        finds("x+x".replace("+", sign), "a+a+b+b".replace("+", sign), "x", "x=a+b".replace("+", sign));
        String inner = "(b" + other + "c)";
        String bare = sign.equals("+") ? "b*c" : "b+c";
        finds("x" + sign + "a", "a" + sign + inner, "x", "x=" + bare);
        finds("f(x" + sign + "a,x)", "f(a" + sign + "b" + sign + "c,b" + sign + "c)", "x", "x=b" + sign + "c");
        finds("f(x" + sign + "a,x)", "f(a" + sign + "b" + sign + "c,b" + other + "c)", "x");
        Run.due("8 PARTS for one VARIABLE and none left for another", matchers("x" + sign + "y" + sign + "a" + sign + "a",
                String.join(sign, "aaaaaaaa".split(""))), 5);
    }

    private static void tooSmall() {
        Run.sentence("that make it EQUAL to that");
        Run.due("a SUM and no SUM", matchers("x+y", "a"), 0);
        Run.due("a SUM and a PRODUCT", matchers("x+y", "a*b"), 0);
        Run.due("a PRODUCT and a SUM", matchers("x*y", "a+b"), 0);
        Run.due("3 VARIABLES for 2 PARTS", matchers("x+y+z", "a+b"), 0);
        Run.due("3 VARIABLES for 3 PARTS", matchers("x+y+z", "a+b+c"), 6);
        Run.due("nothing left for a VARIABLE", matchers("x+a+b", "a+b"), 0);
        Run.due("a PART that is not there", matchers("x+d", "a+b+c"), 0);
        Run.due("a PART too often", matchers("x+a+a", "a+b+c"), 0);
        Run.due("too few PARTS of a FUNCTION", matchers("f(x,y)", "f(a)"), 0);
        Run.due("too many PARTS of a FUNCTION", matchers("f(x)", "f(a,b)"), 0);
        Run.due("another FUNCTION", matchers("f(x)", "g(a)"), 0);
        Run.due("no VARIABLES, EQUAL", matchers("a+b*c", "c*b+a"), 1);
        Run.due("no VARIABLES, not EQUAL", matchers("a+b*c", "c*b+b"), 0);
        Run.due("8 PARTS for one VARIABLE", matchers("x", "a+b+c+d+e+a+b+c"), 1);
    }

    /** A VARIABLE that stands in a SUM several times. */
    private static void timesThatDivide() {
        Run.sentence("that make it EQUAL to that");
        finds("x+x", "a+b", "x");
        finds("x+x", "a+a+b+c", "x");
        finds("x+x+x", "a+a+b", "x");
        finds("x+x+x", "a+b+c", "x");
        finds("x+x+y", "a+b", "xy");
        finds("x+x+y", "a+b+c", "xy");
        finds("x+x+y", "a+b+b", "xy", "x=b y=a");
        finds("x+x+y", "a+a+a", "xy", "x=a y=a");
        finds("x+P+P", "a+a+b+b", "xP", "x=a+a P=b", "x=b+b P=a");
        finds("x*x*x*x*x*x*x*x", "a*a*a*a*a*a*a*a", "x", "x=a");
        finds("x*x*x*x*x*x*x", "a*a*a*a*a*a*a*a", "x");
    }

    /** PARTS of a SUM that are no VARIABLES, but have some in them. */
    private static void partsThatAreNoVariables() {
        Run.sentence("that make it EQUAL to that");
        finds("x+f(y)", "f(a)+f(b)+c", "xy", "x=c+f(a) y=b", "x=c+f(b) y=a");
        finds("f(x)+f(y)+g(z)", "f(a)+f(b)+g(c)", "xyz", "x=a y=b z=c", "x=b y=a z=c");
        finds("f(x)+f(y)", "f(a)+f(b)+f(c)", "xy");
        finds("f(x)+f(x)+y", "f(a)+f(a)+f(b)+f(b)", "xy", "x=a y=f(b)+f(b)", "x=b y=f(a)+f(a)");
        finds("f(x)+f(x)", "f(a)+f(a)+f(a)", "x");
        finds("f(x)+f(y)", "f(a)+f(a)", "xy", "x=a y=a");
        finds("f(x)+y", "f(a)+f(a)+f(b)", "xy", "x=a y=f(a)+f(b)", "x=b y=f(a)+f(a)");
        finds("x+f(x+y)", "a+f(a+b)", "xy", "x=a y=b");
        finds("f(x+y,x*z)", "f(a+b,a*c)", "xyz", "x=a y=b z=c");
        finds("(x+y)*(x+z)", "(a+b)*(a+c)", "xyz", "x=a y=b z=c", "x=a y=c z=b");
        finds("x*(y+z)", "a*b*(c+d)", "xyz", "x=a*b y=c z=d", "x=a*b y=d z=c");
        finds("f(x)+g(x)+h(x)+y", "f(a)+g(a)+h(a)+f(b)+g(b)+h(c)", "xy", "x=a y=f(b)+g(b)+h(c)");
    }

    /** Some 38 different TERMS in one of 40 NODES, the last ones by ORDER among them PARTS of its SUM. */
    private static void manyDifferentTerms() {
        Run.sentence("and those of its PARTS: 40 at most");
        Run run = deep("e");
        String deep = "f(".repeat(31) + "a" + ")".repeat(31);
        String[] due = {deep, deep + "+a*b", deep + "+a*c", "a*b+a*c", "a*b", "a*c"};
        run.read("x+y+e", 5);
        Run.due("match", run.terms.match(5, 6), due.length);
        for (int i = 0; i < due.length; i++) {
            run.terms.matched(i, 3, 7);
            Run.due("x of MATCHER " + i, run.printed(7), due[i]);
            Run.due("instance", run.terms.instance(i, 5, 8), 40);
            Run.due("EQUAL", run.terms.order(8, 6), 0);
        }
        run = deep("e");
        run.read("x+e", 5);
        Run.due("match", run.terms.match(5, 6), 1);
        Run.due("all the others", run.terms.matched(0, 3, 7), 39);
        run.read("x+y", 5);
        Run.due("match", run.terms.match(5, 6), 14);
    }

    /** SLOT 6 has a SUM of 40 NODES: a letter, 31 FUNCTIONS in one another, and two PRODUCTS. */
    private static Run deep(String letter) {
        Run run = Run.with("x", "f(f(f(f(f(f(f(f(x))))))))", "f(f(f(f(f(f(f(a)))))))", "a*b", "a*c", letter);
        for (int n = 1; n < 4; n++) {
            Run.due("match", run.terms.match(0, 2), 1);
            Run.due("deeper", run.terms.instance(0, 1, 2), 8 * n + 8);
        }
        run.terms.join(2, 3, 0, 6);
        run.terms.join(6, 4, 0, 6);
        Run.due("join", run.terms.join(6, 5, 0, 6), 40);
        return run;
    }

    /** Seventy-five different TERMS, one match behind the other. */
    private static void manyMatches() {
        Run.sentence("MATCHERS of a PATTERN and a TERM are found: how many");
        Run run = Run.with("f(x,y)", "g(x,y)", "h(x,y)");
        for (int n = 0; n < 75; n++) {
            int pair = n % 25;
            String text = "fgh".charAt(n / 25) + "(" + "abcde".charAt(pair / 5) + "," + "abcde".charAt(pair % 5) + ")";
            run.read(text, 3);
            Run.due("match of " + text, run.terms.match(n / 25, 3), 1);
            run.terms.matched(0, 4, 4);
            Run.due("y of " + text, run.terms.told(4, 1), pair % 5);
        }
    }

    /** As deep as THE TEXT can bring a VARIABLE, and one level more by join. */
    private static void deepVariable() {
        Run.sentence("A SLOT's TERM with what MATCHER i puts for VARIABLES");
        String text = "f(a+b*".repeat(7) + "f(a+x)" + ")".repeat(7);
        Run run = Run.with("x", "c", text);
        Run.due("NODES", run.terms.told(2, 3), 39);
        Run.due("match", run.terms.match(0, 1), 1);
        Run.due("instance", run.terms.instance(0, 2, 3), 39);
        Run.due("printed", run.printed(3), text.replace("x", "c"));
        Run.due("unify", run.terms.unify(0, 1, 0), 1);
        Run.due("unified", run.terms.unified(0, 2, 4), 39);
        Run.due("EQUAL", run.terms.order(3, 4), 0);
        Run.due("the deep PATTERN", run.terms.match(2, 4), 1);
        Run.due("x", run.terms.matched(0, 3, 5), 1);
        Run.due("not deep enough", run.terms.part(4, 0, 6), 38);
        Run.due("no MATCHER", run.terms.match(2, 6), 0);
    }

    private static void numbered() {
        Run.sentence("They are numbered, from 0 on, by ORDER of what is put for the least VARIABLE, "
                + "of EQUAL ones for the next one, and so on");
        finds("P+x", "a+b", "xP", "x=a P=b", "x=b P=a");
        finds("u+P+z", "a+a+b", "uzP", "u=a z=a P=b", "u=a z=b P=a", "u=b z=a P=a");
        finds("f(x,w+v+u)", "f(e,a+b+c)", "uvwx", "u=a v=b w=c x=e", "u=a v=c w=b x=e", "u=b v=a w=c x=e",
                "u=b v=c w=a x=e", "u=c v=a w=b x=e", "u=c v=b w=a x=e");
        finds("x*y", "e*f(a)*(a+b)", "xy", "x=e y=f(a)*(a+b)", "x=f(a) y=e*(a+b)", "x=a+b y=e*f(a)",
                "x=e*f(a) y=a+b", "x=e*(a+b) y=f(a)", "x=f(a)*(a+b) y=e");
    }

    private static void numberedByAllFour() {
        Run run = Run.with("x+P+u+z", "a+b+c+d");
        Run.due("match", run.terms.match(0, 1), 24);
        int at = 0;
        for (int code = 0; code < 256; code++) {
            int[] digits = {code >> 6, code >> 4 & 3, code >> 2 & 3, code & 3};
            boolean different = (1 << digits[0] | 1 << digits[1] | 1 << digits[2] | 1 << digits[3]) == 15;
            int[] variables = {0, 3, 5, 21};
            for (int k = 0; different && k < 4; k++) {
                run.terms.matched(at, variables[k], 2);
                Run.due("MATCHER " + at + ", VARIABLE " + variables[k], run.terms.told(2, 1), digits[k]);
            }
            at += different ? 1 : 0;
        }
        finds("P*P*x+y", "a*a*b*b*c+d", "xyP", "x=c y=d P=a*b", "x=a*a*c y=d P=b", "x=b*b*c y=d P=a");
        finds("y+x", "e+a*b+f(c)", "xy", "x=e y=f(c)+a*b", "x=f(c) y=e+a*b", "x=e+f(c) y=a*b", "x=e+a*b y=f(c)",
                "x=f(c)+a*b y=e", "x=a*b y=e+f(c)");
    }

    // ---- promise 10

    private static void howMany() {
        Run.sentence("MATCHERS of a PATTERN and a TERM are found: how many");
        Run.due("none", matchers("f(x+y)", "f(a)"), 0);
        Run.due("one of no VARIABLES", matchers("a", "a"), 1);
        Run.due("one VARIABLE alone", matchers("P", "a"), 1);
        Run.due("a SLOT with itself", Run.with("f(a+b)").terms.match(0, 0), 1);
    }

    private static void not() {
        Run.sentence("BAD; NONE; NOT: the PATTERN has more than 4 different VARIABLES, the TERM has one");
        Run.due("4 and none", matchers("u+v+w+x", "a+a+a+a"), 1);
        Run.due("5 and none", matchers("u+v+w+x+y", "a+a+a+a+a"), -3);
        Run.due("4 and one", matchers("u+v+w+x", "a+a+a+y"), -3);
        Run.due("5 and one", matchers("u+v+w+x+y", "a+a+a+a+y"), -3);
        Run run = Run.with("u+v+w+x+y", "a+z");
        Run.due("NONE ahead of NOT, the PATTERN", run.terms.match(0, 9), -2);
        Run.due("NONE ahead of NOT, the TERM", run.terms.match(9, 1), -2);
        Run.due("BAD ahead of NOT, the PATTERN", run.terms.match(0, 16), -1);
        Run.due("BAD ahead of NOT, the TERM", run.terms.match(-1, 1), -1);
        Run.due("BAD ahead of NONE", run.terms.match(9, 16), -1);
    }

    private static void full() {
        Run.sentence("FULL: more than 50 (there are none then)");
        Run run = Run.with(FIFTY);
        Run.due("50", run.terms.match(0, 1), 50);
        Run.due("the last one", run.terms.instance(49, 0, 2), run.terms.told(1, 3));
        Run.due("it makes the PATTERN EQUAL", run.terms.order(1, 2), 0);
        Run.due("no MATCHER 50", run.terms.matched(50, 3, 2), -1);
        run.read(FIFTY_ONE[0], 0);
        run.read(FIFTY_ONE[1], 1);
        Run.due("51", run.terms.match(0, 1), -4);
        for (int i = 0; i <= 51; i++) {
            Run.due("no MATCHER " + i, run.terms.matched(i, 3, 2), -1);
            Run.due("no MATCHER " + i, run.terms.instance(i, 0, 2), -1);
        }
        run.read("u+v+w+x", 0);
        run.read("a+b+c+d+e+f(a)+f(b)+f(c)", 1);
        Run.due("40824", run.terms.match(0, 1), -4);
        run.read("x+y", 0);
        run.read("a+b+c+d+e+f(a)", 1);
        Run.due("62", run.terms.match(0, 1), -4);
        run.read("f(x)+f(y)+f(z)+w", 0);
        run.read("f(a)+f(b)+f(c)+f(d)+f(e)", 1);
        Run.due("60 by PARTS that are no VARIABLES", run.terms.match(0, 1), -4);
        run.read("f(x)+g(y+z)+w", 0);
        run.read("f(a)+f(b)+f(c)+f(d)+g(a+a+b+b+b+b)", 1);
        Run.due("52 by 4 of these and 13 of VARIABLES", run.terms.match(0, 1), -4);
        run.read("f(a)+f(b)+f(c)+f(d)+f(e)+g(a+a+a+b+b)", 1);
        Run.due("50 by 5 of these and 10 of VARIABLES", run.terms.match(0, 1), 50);
        Run.due("the last one", run.terms.instance(49, 0, 2), 18);
        Run.due("it makes the PATTERN EQUAL", run.terms.order(1, 2), 0);
        run.read("x+y", 0);
        run.read("a+b+c+d+e", 1);
        Run.due("30 behind FULL", run.terms.match(0, 1), 30);
        Run.due("they are there", run.terms.matched(29, 3, 2), 5);
    }

    private static void stay() {
        Run.sentence("(By BAD, NONE, NOT those of before stay.)");
        Run run = Run.with("x+y", "a+b", "u+v+w+x+y", "c");
        Run.due("2 of before", run.terms.match(0, 1), 2);
        int[][] refused = {{-1, 1, -1}, {0, 16, -1}, {9, 1, -2}, {0, 9, -2}, {2, 1, -3}, {0, 2, -3}, {2, 2, -3}};
        for (int[] call : refused) {
            Run.due("refused", run.terms.match(call[0], call[1]), call[2]);
            Run.due("the last one stays", run.terms.matched(1, 3, 4), 1);
            Run.due("x", run.printed(4), "b");
            Run.due("y is in the PATTERN", run.terms.matched(1, 4, 4), 1);
            Run.due("no MATCHER more", run.terms.matched(2, 3, 4), -1);
        }
        run.read("d", 0);
        run.read("d", 1);
        Run.due("they stay as the SLOTS change", run.terms.matched(0, 3, 4), 1);
        Run.due("x", run.printed(4), "a");
        run.terms.unify(0, 1, 0);
        run.terms.solve(1);
        Run.due("they stay by other calls", run.terms.matched(1, 3, 4), 1);
    }

    /** Those of before are gone where 0 are found, for 0 is no refusal. */
    private static void gone() {
        Run.sentence("MATCHERS of a PATTERN and a TERM are found: how many");
        Run run = Run.with("x+y", "a+b", "c");
        Run.due("2", run.terms.match(0, 1), 2);
        Run.due("none", run.terms.match(0, 2), 0);
        Run.due("matched", run.terms.matched(0, 3, 4), -1);
        Run.due("instance", run.terms.instance(0, 0, 4), -1);
        Run.due("one without VARIABLES", run.terms.match(2, 2), 1);
        Run.due("x is not in that PATTERN", run.terms.matched(0, 3, 4), -2);
        Run.due("one MATCHER only", run.terms.matched(1, 3, 4), -1);
    }

    // ---- promises 11 and 12

    private static void matchedBad() {
        Run.sentence("What MATCHER i puts for a VARIABLE comes to a SLOT: NODES. BAD: also no such MATCHER");
        Run run = Run.with("u+P", "a+b*c");
        Run.due("ahead of match", run.terms.matched(0, 0, 2), -1);
        Run.due("match", run.terms.match(0, 1), 2);
        for (int i : new int[] {-1, 2, 50, LEAST, MOST}) {
            Run.due("MATCHER " + i, run.terms.matched(i, 0, 2), -1);
        }
        for (int variable : new int[] {-1, 22, 32, LEAST, MOST}) {
            Run.due("VARIABLE " + variable, run.terms.matched(0, variable, 2), -1);
        }
        for (int slot : NO_SLOTS) {
            Run.due("to SLOT " + slot, run.terms.matched(0, 0, slot), -1);
        }
        Run.due("nothing came", run.terms.told(2, 0), -2);
        Run.due("the first VARIABLE", run.terms.matched(1, 0, 15), 3);
        Run.due("b*c", run.printed(15), "b*c");
        Run.due("the last VARIABLE", run.terms.matched(1, 21, 0), 1);
        Run.due("a", run.printed(0), "a");
    }

    private static void matchedNone() {
        Run.sentence("NONE: the VARIABLE is not in the PATTERN");
        Run run = Run.with("v+O", "a+b", "u*P");
        Run.due("match", run.terms.match(0, 1), 2);
        for (int variable = 0; variable < 22; variable++) {
            boolean there = variable == 1 || variable == 20;
            Run.due("VARIABLE " + variable, run.terms.matched(0, variable, 3), there ? 1 : -2);
        }
        run.read("c", 3);
        Run.due("NONE", run.terms.matched(0, 0, 3), -2);
        Run.due("the SLOT stays", run.printed(3), "c");
        Run.due("BAD of the MATCHER ahead of it", run.terms.matched(2, 0, 3), -1);
        Run.due("BAD of the SLOT ahead of it", run.terms.matched(0, 0, 16), -1);
    }

    private static void othersStay() {
        Run.sentence("A SLOT's TERM with what MATCHER i puts for VARIABLES (others stay)");
        Run run = Run.with("x*y", "(a+b)*c", "u+x+P", "d+e", "y*f(x*y)");
        Run.due("match", run.terms.match(0, 1), 2);
        Run.due("a SUM put in a SUM", run.terms.instance(1, 2, 5), 5);
        Run.due("others stay", run.printed(5), "u+P+a+b");
        Run.due("no VARIABLES", run.terms.instance(1, 3, 5), 3);
        Run.due("the same", run.printed(5), "d+e");
        Run.due("to the SLOT itself", run.terms.instance(1, 4, 4), 8);
        Run.due("puts in PRODUCTS", run.printed(4), "c*f(c*(a+b))");
        Run.due("to the last SLOT", run.terms.instance(0, 0, 15), 5);
    }

    private static void instanceRefused() {
        Run.sentence("VARIABLES (others stay) comes to a SLOT: NODES. BAD; NONE; FULL");
        Run run = Run.with("x", "a+b+c", "x+x+u+v", "x+x+x");
        Run.due("ahead of match", run.terms.instance(0, 2, 4), -1);
        Run.due("match", run.terms.match(0, 1), 1);
        for (int i : new int[] {-1, 1, LEAST, MOST}) {
            Run.due("MATCHER " + i, run.terms.instance(i, 2, 4), -1);
        }
        for (int slot : NO_SLOTS) {
            Run.due("SLOT " + slot, run.terms.instance(0, slot, 4), -1);
            Run.due("to SLOT " + slot, run.terms.instance(0, 2, slot), -1);
        }
        Run.due("NONE", run.terms.instance(0, 9, 4), -2);
        Run.due("9 PARTS", run.terms.instance(0, 3, 4), -4);
        Run.due("nothing came", run.terms.told(4, 0), -2);
        Run.due("9 PARTS to the SLOT itself", run.terms.instance(0, 3, 3), -4);
        Run.due("the SLOT stays", run.printed(3), "x+x+x");
        Run.due("8 PARTS", run.terms.instance(0, 2, 4), 9);
    }
}
