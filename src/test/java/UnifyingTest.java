/** Promises 17 to 21: unify, bases, base, set, unified. */
public final class UnifyingTest {
    public static void main(String[] args) {
        variables();
        ground();
        cancelling();
        products();
        refusals();
        full();
        stays();
        sets();
        unified();
        Run.end();
    }

    private static Run of(String left, String right, int symbol, int due) {
        Run run = new Run();
        run.read(left, 0);
        run.read(right, 1);
        Run.due("unify of " + left + " and " + right, run.terms.unify(0, 1, symbol), due);
        return run;
    }

    private static void bases(Run run, int bases, int usable, int unknowns) {
        Run.due("BASES", run.terms.bases(0), bases);
        Run.due("USABLE ones", run.terms.bases(1), usable);
        Run.due("UNKNOWNS", run.terms.bases(2), unknowns);
        Run.due("what -1", run.terms.bases(-1), -1);
        Run.due("what 3", run.terms.bases(3), -1);
        Run.due("BASE -1", run.terms.base(-1, 0), -1);
        Run.due("BASE behind the last", run.terms.base(bases, 0), -1);
        Run.due("UNKNOWN -1", run.terms.base(0, -1), -1);
        Run.due("UNKNOWN behind the last", run.terms.base(0, unknowns), -1);
    }

    private static void unifier(Run run, int i, int bits, String left) {
        Run.due("set(" + i + ")", run.terms.set(i), bits);
        int nodes = run.terms.unified(i, 0, 2);
        Run.due("the other side's NODES", run.terms.unified(i, 1, 3), nodes);
        Run.due("EQUAL", run.terms.order(2, 3), 0);
        Run.due("unified " + i, run.printed(2), left);
    }

    private static void variables() {
        Run run = of("x+y", "u+v", 0, 7);
        bases(run, 4, 4, 4);
        int[][] due = {{0, 1, 0, 1}, {0, 1, 1, 0}, {1, 0, 0, 1}, {1, 0, 1, 0}};
        for (int b = 0; b < 4; b++) {
            for (int j = 0; j < 4; j++) {
                Run.due("base(" + b + ", " + j + ")", run.terms.base(b, j), due[b][j]);
            }
        }
        int[] sets = {6, 7, 9, 11, 13, 14, 15};
        String[] sums = {"B+C", "A+B+C", "A+D", "A+B+D", "A+C+D", "B+C+D", "A+B+C+D"};
        for (int i = 0; i < sets.length; i++) {
            unifier(run, i, sets[i], sums[i]);
        }
        Run.due("UNIFIER 7", run.terms.set(7), -1);
        Run.due("UNIFIER -1", run.terms.set(-1), -1);
        run = of("x", "y", 0, 1);
        bases(run, 1, 1, 2);
        unifier(run, 0, 1, "A");
        run = of("u+u+u", "v+v", 0, 1);
        Run.due("u", run.terms.base(0, 0), 2);
        Run.due("v", run.terms.base(0, 1), 3);
        unifier(run, 0, 1, "A+A+A+A+A+A");
        run = of("x+x+y", "z", 0, 1);
        unifier(run, 0, 3, "A+B+B");
    }

    private static void ground() {
        Run run = of("x+x+a", "y+b", 0, 2);
        bases(run, 5, 3, 4);
        unifier(run, 0, 10, "a+b+b");
        unifier(run, 1, 26, "E+E+a+b+b");
        run = of("x", "b+a", 0, 1);
        bases(run, 2, 2, 3);
        unifier(run, 0, 3, "a+b");
        run = of("x+x", "a+b", 0, 0);
        Run.due("NONE: it found none", run.terms.bases(0), -2);
        run = of("x+x", "a+a", 0, 1);
        bases(run, 1, 1, 2);
        unifier(run, 0, 1, "a+a");
        of("a", "b", 0, 0);
        run = of("x+y", "a+b", 0, 2);
        bases(run, 4, 4, 4);
        unifier(run, 0, 6, "a+b");
        unifier(run, 1, 9, "a+b");
        run = of("x+y", "f(a)+a*b", 0, 2);
        unifier(run, 0, 6, "f(a)+a*b");
        // BASES 1 and 2: y with f(a), x with a*b
        run.read("x", 5);
        run.terms.unified(0, 5, 6);
        Run.due("x of UNIFIER 0", run.printed(6), "a*b");
    }

    private static void cancelling() {
        Run run = of("x+a", "x+a", 0, 1);
        bases(run, 0, 0, 0);
        Run.due("no bits", run.terms.set(0), 0);
        Run.due("only one", run.terms.set(1), -1);
        unifier(run, 0, 0, "x+a");
        run = of("x+a", "x+a+b", 0, 0);
        Run.due("one is empty", run.terms.bases(0), -2);
        Run.due("one is empty", run.terms.base(0, 0), -1);
        of("x+a", "x+b", 0, 0);
        of("x+x", "x", 0, 0);
        of("a", "a", 1, 1);
        run = of("x+x+a+b", "x+y+b+c", 0, 2);
        bases(run, 4, 3, 4);
        run = of("x+y+f(a+b)", "f(b+a)+y+z", 0, 1);
        bases(run, 1, 1, 2);
        unifier(run, 0, 1, "y+A+f(a+b)");
    }

    private static void products() {
        Run run = of("x*y", "(a+b)*c", 1, 2);
        bases(run, 4, 4, 4);
        unifier(run, 0, 6, "c*(a+b)");
        run.read("x+a", 5);
        Run.due("a SUM put in a SUM", run.terms.unified(0, 5, 6), 4);
        Run.due("x is the SUM by UNIFIER 0", run.printed(6), "a+a+b");
        Run.due("a CONSTANT put in a SUM", run.terms.unified(1, 5, 6), 3);
        Run.due("x is c by UNIFIER 1", run.printed(6), "a+c");
        run = of("x", "a*b", 0, 1);
        unifier(run, 0, 1, "a*b");
        of("x", "a*y", 0, -3);
        of("x", "a*y", 1, 1);
        of("x+y", "a*b", 0, 0);
        of("x+y", "a*b", 1, -3);
        of("a+b", "a*b", 1, 0);
    }

    private static void refusals() {
        of("x+f(y)", "a", 0, -3);
        of("a", "x+f(y)", 0, -3);
        of("f(x)+a", "f(x)+b", 0, -3);
        of("x+A", "a", 0, -3);
        of("a", "P", 0, -3);
        of("f(A)+a", "f(A)+a", 0, -3);
        of("x+z", "a", 0, 0);
        Run run = of("x+y", "z", 0, 1);
        Run.due("symbol 2", run.terms.unify(0, 1, 2), -1);
        Run.due("symbol -1", run.terms.unify(0, 1, -1), -1);
        Run.due("BAD ahead of NONE", run.terms.unify(9, 1, 2), -1);
        Run.due("SLOT s", run.terms.unify(-1, 1, 0), -1);
        Run.due("SLOT t", run.terms.unify(0, 16, 0), -1);
        Run.due("NONE s", run.terms.unify(9, 1, 0), -2);
        run.read("A", 2);
        Run.due("NONE ahead of NOT", run.terms.unify(2, 9, 0), -2);
        Run.due("NOT ahead of FULL", run.terms.unify(2, 0, 0), -3);
    }

    private static void full() {
        Run run = of("u+v+w+x", "y+z+y+z+y+z", 0, -4);
        Run.due("there are none then", run.terms.bases(0), -2);
        Run.due("there are none then", run.terms.set(0), -1);
        run = of("x+y", "a+b+c+d+e+f(a)+f(b)+f(c)", 0, 254);
        bases(run, 16, 16, 10);
        // y has BASES 0 to 7, x those from 8 on; only f(c), the last UNKNOWN, for x: BASE 8, and not BASE 0
        Run.due("the least bits", run.terms.set(0), 256 + 254);
        of("u+u+u+u+u+v+v+v", "w+w+w+x+y", 0, -4);
        of("u+v+w", "a+b+c+d+e+f(a)", 0, -4);
        of("u+v+w+x", "y+z+y+z", 0, -4);
        String right = "w+x+y+z+a+b+c+d";
        of("u+v", right, 0, Plain.unifiers(Plain.read("u+v"), Plain.read(right), 0).sets.size());
    }

    private static void stays() {
        Run run = of("x", "a", 0, 1);
        AcTerms terms = run.terms;
        run.read("A", 3);
        terms.unify(0, 1, 2);
        terms.unify(0, 9, 0);
        terms.unify(0, 3, 0);
        Run.due("by BAD, NONE, NOT those of before stay", terms.bases(2), 2);
        Run.due("by BAD, NONE, NOT those of before stay", terms.set(0), 1);
        run.read("c+d", 0);
        run.read("c", 1);
        run.read("x*x", 4);
        Run.due("they stay when the SLOTS change", terms.unified(0, 4, 4), 3);
        Run.due("a for x", run.printed(4), "a*a");
        run.read("u+v+w+x", 5);
        run.read("y+z+y+z+y+z", 6);
        Run.due("FULL", terms.unify(5, 6, 0), -4);
        Run.due("by FULL there are none", terms.unified(0, 4, 4), -1);
        Run.due("one again", terms.unify(1, 1, 0), 1);
        Run.due("none found", terms.unify(0, 1, 0), 0);
        Run.due("by none there are none", terms.unified(0, 4, 4), -1);
        Run.due("by none there are no BASES", terms.bases(0), -2);
    }

    private static void sets() {
        Run run = of("u+v+w+x", "y+z", 0, Plain.unifiers(Plain.read("u+v+w+x"), Plain.read("y+z"), 0).sets.size());
        int before = -1;
        int count = run.terms.unify(0, 1, 0);
        for (int i = 0; i < count; i++) {
            int bits = run.terms.set(i);
            Run.due("ascending bits", bits > before ? 1 : 0, 1);
            before = bits;
        }
        Run.due("the last SET has all BASES", before, 255);
    }

    private static void unified() {
        Run run = of("x", "a+b", 0, 1);
        AcTerms terms = run.terms;
        run.read("h(x*y,x+P,c)", 2);
        Run.due("NODES", terms.unified(0, 2, 3), 11);
        Run.due("others stay", run.printed(3), "h(y*(a+b),P+a+b,c)");
        run.read("x+u+v+w+y+z+A", 4);
        Run.due("8 PARTS", terms.unified(0, 4, 5), 9);
        run.read("x+x+u+v+w+y+z", 4);
        Run.due("9 PARTS", terms.unified(0, 4, 5), -4);
        Run.due("FULL leaves the SLOT", terms.told(5, 2), 8);
        Run.due("to itself", terms.unified(0, 2, 2), 11);
        Run.due("UNIFIER 1", terms.unified(1, 2, 3), -1);
        Run.due("UNIFIER -1", terms.unified(-1, 2, 3), -1);
        Run.due("SLOT 16", terms.unified(0, 16, 3), -1);
        Run.due("BAD ahead of NONE", terms.unified(0, 15, -1), -1);
        Run.due("NONE", terms.unified(0, 15, 3), -2);
        run = of("u+u+u+u+u", "v+v+v", 0, 1);
        Run.due("15 PARTS", run.terms.unified(0, 0, 2), -4);
        run.read("v*u", 3);
        Run.due("3 and 5 of them are not too many", run.terms.unified(0, 3, 2), 11);
        run = of("u", "v+v+v+v+v+v+v+v", 0, 1);
        run.read("v+v*v", 3);
        Run.due("v is A alone", run.terms.unified(0, 3, 2), 5);
        tooLongForOne();
    }

    /** A VARIABLE for which too much would be put refuses only the TERMS that it is in. */
    private static void tooLongForOne() {
        Run run = new Run();
        run.read("u+u+u+w", 0);
        run.read("v+v+v+v+v+v+v+v", 1);
        Plain.Unifiers due = Plain.unifiers(Plain.read("u+u+u+w"), Plain.read("v+v+v+v+v+v+v+v"), 0);
        Run.due("unify", run.terms.unify(0, 1, 0), due.sets.size());
        run.read("u", 2);
        run.read("v", 3);
        int seen = 0;
        for (int i = 0; i < due.sets.size(); i++) {
            boolean fullU = due.puts(due.sets.get(i)).get(0).isFull();
            boolean fullV = due.puts(due.sets.get(i)).get(1).isFull();
            seen += fullU && !fullV ? 1 : 0;
            Run.due("u by " + due.sets.get(i), run.terms.unified(i, 2, 4) == -4 ? 1 : 0, fullU ? 1 : 0);
            Run.due("v by " + due.sets.get(i), run.terms.unified(i, 3, 4) == -4 ? 1 : 0, fullV ? 1 : 0);
        }
        Run.due("there are such ones", seen > 0 ? 1 : 0, 1);
    }
}
