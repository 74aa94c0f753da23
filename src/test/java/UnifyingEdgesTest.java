/** Each sentence of ==== 4 and of promises 17 to 21 that names a boundary case, with a test of its own. */
public final class UnifyingEdgesTest {
    private static final int LEAST = Integer.MIN_VALUE;
    private static final int MOST = Integer.MAX_VALUE;
    private static final int[] NO_SLOTS = {-1, 16, LEAST, MOST};
    /** Sides with just 16, and just 17, BASES, found by Plain. */
    private static final String[] SIXTEEN = {"u+u+u+u", "v+v+v+v+w+x+y"};
    private static final String[] SEVENTEEN = {"u+u+u+u+v+v", "w+w+w+x+x+x+y"};

    public static void main(String[] args) {
        symbols();
        itselfAlone();
        eachPart();
        equalOnesAreOne();
        equalPartsGo();
        bothEmpty();
        oneEmpty();
        unknownsInOrder();
        leftLessRight();
        noSpan();
        sixteenBases();
        usable();
        good();
        bits();
        puts();
        groundTerms();
        newVariables();
        notNewOnes();
        notAPart();
        unifyRefused();
        full();
        stay();
        bases();
        basesNone();
        base();
        set();
        othersStay();
        unifiedRefused();
        Run.end();
    }

    private static Run of(String left, String right, int symbol, int due) {
        Run run = Run.with(left, right);
        Run.due("unify of " + left + " and " + right + " in " + symbol, run.terms.unify(0, 1, symbol), due);
        return run;
    }

    private static void counts(Run run, int bases, int usable, int unknowns) {
        Run.due("BASES", run.terms.bases(0), bases);
        Run.due("USABLE ones", run.terms.bases(1), usable);
        Run.due("UNKNOWNS", run.terms.bases(2), unknowns);
    }

    private static void unifier(Run run, int i, int bits, String left) {
        Run.due("set(" + i + ")", run.terms.set(i), bits);
        int nodes = run.terms.unified(i, 0, 14);
        Run.due("the other side's NODES", run.terms.unified(i, 1, 15), nodes);
        Run.due("EQUAL", run.terms.order(14, 15), 0);
        Run.due("unified " + i, run.printed(14), left);
    }

    /** What UNIFIER i puts for a VARIABLE. */
    private static void put(Run run, int i, String variable, String due) {
        run.read(variable, 13);
        run.terms.unified(i, 13, 13);
        Run.due("put for " + variable, run.printed(13), due);
    }

    // ---- ==== 4

    private static void symbols() {
        Run.sentence("UNIFIERS of two TERMS s, t IN a SYMBOL (0 SUM, 1 PRODUCT)");
        unifier(of("x+y", "a+b", 0, 2), 0, 6, "a+b");
        unifier(of("x*y", "a*b", 1, 2), 0, 6, "a*b");
        of("x*y", "a*b", 0, -3);
        of("x+y", "a+b", 1, -3);
        Run run = Run.with("x", "a");
        for (int symbol : new int[] {-1, 2, 3, LEAST, MOST}) {
            Run.due("symbol " + symbol, run.terms.unify(0, 1, symbol), -1);
        }
    }

    private static void itselfAlone() {
        Run.sentence("each is taken as its PARTS by that SYMBOL (itself alone, if it is none such)");
        Run run = of("x", "a*b", 0, 1);
        counts(run, 1, 1, 2);
        put(run, 0, "x", "a*b");
        run = of("x", "a*b", 1, 1);
        counts(run, 2, 2, 3);
        put(run, 0, "x", "a*b");
        run = of("a+b", "x", 1, 1);
        counts(run, 1, 1, 2);
        put(run, 0, "x", "a+b");
        run = of("x", "z", 0, 1);
        counts(run, 1, 1, 2);
        put(run, 0, "x", "A");
        put(run, 0, "z", "A");
    }

    private static void eachPart() {
        Run.sentence("Each PART must be a VARIABLE or a TERM without VARIABLES");
        of("x+f(a)", "y+a*b", 0, 2);
        of("x+f(u)", "y", 0, -3);
        of("y", "x+f(u)", 0, -3);
        of("x+u*v", "y", 0, -3);
        of("x+a*u", "x+a*u", 0, -3);
        of("f(x)", "f(x)", 0, -3);
        of("x*(a+u)", "y", 1, -3);
        of("x*(a+b)", "y", 1, 1);
    }

    private static void equalOnesAreOne() {
        Run.sentence("(a GROUND one; EQUAL ones are one)");
        counts(of("x+y", "f(a+b)+f(b+a)", 0, 1), 3, 3, 3);
        counts(of("x+x", "a*b+b*a", 0, 1), 1, 1, 2);
        counts(of("x+y", "f(a,b)+f(b,a)", 0, 2), 4, 4, 4);
    }

    private static void equalPartsGo() {
        Run.sentence("As long as both have a PART that is EQUAL, it goes from both, once");
        counts(of("x+a+b", "y+a", 0, 1), 2, 2, 3);
        counts(of("x+x+x", "x+y", 0, 1), 1, 1, 2);
        counts(of("x+x+x", "x+x+y", 0, 1), 1, 1, 2);
        counts(of("x+a+a+a", "y+a+a", 0, 1), 2, 2, 3);
        counts(of("x+f(a+b)", "y+f(b+a)", 0, 1), 1, 1, 2);
        Run run = of("x+x+x", "x+y", 0, 1);
        Run.due("2 of x are left", run.terms.base(0, 1), 2);
        put(run, 0, "y", "A+A");
        run = of("u+x", "u+y", 0, 1);
        put(run, 0, "u", "u");
    }

    private static void bothEmpty() {
        Run.sentence("What is left (LEFT, RIGHT): if both are empty, there is one UNIFIER, that puts each VARIABLE for itself");
        Run run = of("x+a+f(b)", "f(b)+x+a", 0, 1);
        counts(run, 0, 0, 0);
        Run.due("its bits", run.terms.set(0), 0);
        Run.due("only one", run.terms.set(1), -1);
        Run.due("no BASE", run.terms.base(0, 0), -1);
        put(run, 0, "x", "x");
        put(run, 0, "A+f(u)", "A+f(u)");
        of("a", "a", 0, 1);
        of("a", "a", 1, 1);
        of("u", "u", 1, 1);
        of("a+b", "b+a", 1, 1);
    }

    private static void oneEmpty() {
        Run.sentence("if one is, there is none");
        for (String more : new String[] {"x", "y", "a", "b", "y+z", "a+b"}) {
            Run run = of("x+a", "x+a+" + more, 0, 0);
            Run.due("no SET", run.terms.set(0), -1);
            Run.due("no BASES", run.terms.bases(0), -2);
            of("x+a+" + more, "x+a", 0, 0);
        }
        of("x", "x+x", 0, 0);
    }

    private static void unknownsInOrder() {
        Run.sentence("Else the UNKNOWNS are the VARIABLES that are left, by numbers, then the GROUND ones left, by ORDER");
        Run run = of("z+u", "a*b+e", 0, 2);
        int[][] due = {{0, 1, 0, 1}, {0, 1, 1, 0}, {1, 0, 0, 1}, {1, 0, 1, 0}};
        for (int b = 0; b < 4; b++) {
            for (int j = 0; j < 4; j++) {
                Run.due("base(" + b + ", " + j + ")", run.terms.base(b, j), due[b][j]);
            }
        }
        // UNKNOWNS u, z, e, a*b: BASES 1 and 2 put e for z and a*b for u
        Run.due("set", run.terms.set(0), 6);
        put(run, 0, "z", "e");
        put(run, 0, "u", "a*b");
    }

    private static void leftLessRight() {
        Run.sentence("an UNKNOWN's NUMBER is how often it stands LEFT, less how often RIGHT");
        // x has the NUMBER 3 and 1, or -3 and -1: a BASE has 1 of x and as many of y as that
        gives("x+x+x", "y", 1, 3);
        gives("y", "x+x+x", 1, 3);
        gives("x+x+x+x", "y+x+x+x", 1, 1);
        gives("x+x+x+x+x+x+x+x", "x+x+x+x+x+x+x+y", 1, 1);
        gives("y", "x+x+x+x+x+x+x+x", 1, 8);
        gives("x+x+x+x+a+a", "y+y+x+a+a", 2, 3);
    }

    private static void gives(String left, String right, int toX, int toY) {
        Run run = of(left, right, 0, 1);
        counts(run, 1, 1, 2);
        Run.due("to x", run.terms.base(0, 0), toX);
        Run.due("to y", run.terms.base(0, 1), toY);
    }

    private static void noSpan() {
        Run.sentence("THE BASIS of this one ROW (without a SPAN)");
        Run run = of("u+u+u+u+u+u+u+u", "v+v+v+v+v+v+v", 0, 1);
        counts(run, 1, 1, 2);
        Run.due("7", run.terms.base(0, 0), 7);
        Run.due("8", run.terms.base(0, 1), 8);
        run.terms.system(1, 2);
        run.terms.solve(1);
        Run.due("SPAN 1 of solve() is no SPAN of it", run.terms.unify(0, 1, 0), 1);
        Run.due("8", run.terms.base(0, 1), 8);
        run = of("u+u+u+u+u+u+u+v", "w+w+w+w+w+w+w+w", 0, 5);
        Run.due("8 of v for one of w", run.terms.base(0, 1), 8);
        Run.due("8 of u for 7 of w", run.terms.base(2, 0), 8);
    }

    private static void sixteenBases() {
        Run.sentence("has BASES 0, 1, .. in the order told (FULL: more than 16)");
        Run run = of(SIXTEEN[0], SIXTEEN[1], 0, 32677);
        counts(run, 16, 16, 5);
        Run.due("BASE 15 is there", run.terms.base(15, 0), 1);
        Run.due("no BASE 16", run.terms.base(16, 0), -1);
        of(SEVENTEEN[0], SEVENTEEN[1], 0, -4);
        run = of("x+y", "a+b+c+d+e+f(a)+f(b)+f(c)", 0, 254);
        counts(run, 16, 16, 10);
        of("x+y", "x+a+b+c+d+e+f(a)+f(b)", 0, 1);
        of("u+v+w", "a+b+c+d+e+f(a)", 0, -4);
        of("u+v+w+x+y+z+a+b", "c+d+e+f(a)+f(b)+f(c)+f(d)+f(e)", 0, -4);
        of("u+u+u+u+u+u+u+u", "a+b+c+d+e+f(a)+f(b)+f(c)", 0, -4);
        run = of("z", "a+b+c+d+e+f(a)+f(b)+f(c)", 0, 1);
        counts(run, 8, 8, 9);
        Run.due("all of them", run.terms.unified(0, 0, 2), 12);
    }

    private static void usable() {
        Run.sentence("A USABLE one gives to all GROUND UNKNOWNS together 0, or 1");
        counts(of("x+x", "y+a", 0, 2), 3, 2, 3);
        counts(of("x+x+a", "y+b", 0, 2), 5, 3, 4);
        counts(of("x+y+y", "a+b", 0, 0), -2, -2, -2);
        counts(of("x+y+z", "a+a", 0, 0), -2, -2, -2);
        counts(of("x+y", "z", 0, 1), 2, 2, 3);
    }

    private static void good() {
        Run.sentence("A SET of USABLE BASES is GOOD, if all numbers for each VARIABLE are 1 or more together, "
                + "for each GROUND UNKNOWN just 1");
        of("x+x", "a+b", 0, 0);
        of("x+y", "a", 0, 0);
        unifier(of("x", "a", 0, 1), 0, 1, "a");
        unifier(of("x", "a+b", 0, 1), 0, 3, "a+b");
        // BASES 0 and 2 give 1 to a, so a SET with both is not GOOD, nor one with none of them
        Run run = of("x+y", "z+a", 0, 4);
        counts(run, 4, 4, 4);
        int[] sets = {6, 9, 11, 14};
        for (int i = 0; i < sets.length; i++) {
            Run.due("set(" + i + ")", run.terms.set(i), sets[i]);
        }
        unifier(of("x+y", "z", 0, 1), 0, 3, "A+B");
    }

    private static void bits() {
        Run.sentence("UNIFIERS are the GOOD SETS, numbered from 0 on by their bits (BASE 0 the lowest; the lesser first)");
        Run run = of("x+y", "u+v", 0, 7);
        int[] sets = {6, 7, 9, 11, 13, 14, 15};
        for (int i = 0; i < sets.length; i++) {
            Run.due("set(" + i + ")", run.terms.set(i), sets[i]);
        }
        run = of(SIXTEEN[0], SIXTEEN[1], 0, 32677);
        Plain.Unifiers due = Plain.unifiers(Plain.read(SIXTEEN[0]), Plain.read(SIXTEEN[1]), 0);
        for (int i = 0; i < 32677; i += 100) {
            Run.due("set(" + i + ")", run.terms.set(i), due.sets.get(i));
        }
        Run.due("the last one has all bits", run.terms.set(32676), 65535);
    }

    private static void puts() {
        Run.sentence("It puts for a VARIABLE that is left the SUM (PRODUCT) of what stands for the BASES of its SET, "
                + "each as often as the BASE gives to that VARIABLE");
        Run run = of("x+x+x", "y+y", 0, 1);
        put(run, 0, "x", "A+A");
        put(run, 0, "y", "A+A+A");
        run = of("x*x*x", "y*y", 1, 1);
        put(run, 0, "x", "A*A");
        run = of("x+x+a", "y", 0, 1);
        put(run, 0, "x", "B");
        put(run, 0, "y", "B+B+a");
        run = of("u+u+u+u+u+u+u+u", "v", 0, 1);
        put(run, 0, "v", "A+A+A+A+A+A+A+A");
        put(run, 0, "u", "A");
        run = of("x", "f(a)", 1, 1);
        put(run, 0, "x", "f(a)");
    }

    private static void groundTerms() {
        Run.sentence("for a BASE that gives 1 to a GROUND UNKNOWN that TERM");
        Run run = of("x", "f(a+b)+c*d", 0, 1);
        put(run, 0, "x", "f(a+b)+c*d");
        run = of("x+x", "f(a)+f(a)", 0, 1);
        put(run, 0, "x", "f(a)");
        run = of("x+y", "a+a", 0, 1);
        put(run, 0, "x", "a");
        put(run, 0, "y", "a");
        run = of("x+x+a", "y", 0, 1);
        put(run, 0, "y", "B+B+a");
        run = of("a", "u", 0, 1);
        put(run, 0, "u", "a");
    }

    private static void newVariables() {
        Run.sentence("for another one the VARIABLE 6 and its number (A for BASE 0)");
        put(of("x", "y", 0, 1), 0, "x", "A");
        Run run = of(SIXTEEN[0], SIXTEEN[1], 0, 32677);
        Plain.Unifiers due = Plain.unifiers(Plain.read(SIXTEEN[0]), Plain.read(SIXTEEN[1]), 0);
        int last = 0;
        while (Integer.bitCount(due.sets.get(last)) > 4 || due.sets.get(last) >> 15 == 0) {
            last++;
        }
        // BASE 15, the last one by its first number, is the only one of that SET that gives something to v
        put(run, last, "v", "P");
        Run.due("its number", run.terms.told(13, 1), 21);
        // BASES that are not USABLE have numbers too: the one for x and y alone is 4
        run = of("x+x+a", "y+b", 0, 2);
        put(run, 1, "x", "E+b");
    }

    private static void notNewOnes() {
        Run.sentence("(NOT: some VARIABLE 6 .. 21 stands in s or t.)");
        String letters = "uvwxyzABCDEFGHIJKLMNOP";
        for (int v = 0; v < 22; v++) {
            String letter = letters.substring(v, v + 1);
            of(letter, "a", 0, v < 6 ? 1 : -3);
            of("a", letter, 1, v < 6 ? 1 : -3);
            of("a+" + letter, "b+" + letter, 0, v < 6 ? 0 : -3);
        }
        of("A", "A", 0, -3);
        of("a+f(P)", "a+f(P)", 0, -3);
    }

    // ---- promise 17

    private static void notAPart() {
        Run.sentence("NOT: as told; a PART that is no VARIABLE has one in it");
        of("a+f(f(f(x)))", "y", 0, -3);
        of("y", "a+f(f(f(x)))", 0, -3);
        of("f(x)+f(a)", "y", 0, -3);
        of("y", "f(a)*f(x)", 1, -3);
        of("a+f(x)+f(a)", "y", 0, -3);
        of("a*x", "y", 0, -3);
        of("a*x", "y", 1, 1);
        of("a+x", "y", 1, -3);
        of("a+x", "y", 0, 1);
        of("f(x)", "f(x)", 1, -3);
    }

    private static void unifyRefused() {
        Run.sentence("UNIFIERS of two SLOTS' TERMS IN a SYMBOL are found: how many. BAD; NONE");
        Run run = Run.with("x");
        run.read("a", 15);
        Run.due("the first and the last SLOT", run.terms.unify(0, 15, 0), 1);
        Run.due("a SLOT with itself", run.terms.unify(15, 15, 0), 1);
        for (int slot : NO_SLOTS) {
            Run.due("first SLOT " + slot, run.terms.unify(slot, 15, 0), -1);
            Run.due("second SLOT " + slot, run.terms.unify(0, slot, 0), -1);
        }
        Run.due("first NONE", run.terms.unify(9, 15, 0), -2);
        Run.due("second NONE", run.terms.unify(0, 9, 0), -2);
        Run.due("NONE twice", run.terms.unify(9, 9, 1), -2);
    }

    private static void full() {
        Run.sentence("FULL (there are none then)");
        Run run = of("x", "a", 0, 1);
        run.read(SEVENTEEN[0], 2);
        run.read(SEVENTEEN[1], 3);
        Run.due("17 BASES", run.terms.unify(2, 3, 0), -4);
        Run.due("no SET", run.terms.set(0), -1);
        Run.due("no unified", run.terms.unified(0, 0, 4), -1);
        Run.due("no BASE", run.terms.base(0, 0), -1);
        for (int what = 0; what < 3; what++) {
            Run.due("no bases(" + what + ")", run.terms.bases(what), -2);
        }
        Run.due("one again", run.terms.unify(0, 1, 0), 1);
        Run.due("its bits", run.terms.set(0), 1);
    }

    private static void stay() {
        Run.sentence("(By BAD, NONE, NOT those of before stay.)");
        Run run = Run.with("x+y", "a+b", "A", "x+f(x)");
        Run.due("2 of before", run.terms.unify(0, 1, 0), 2);
        int[][] refused = {{-1, 1, 0, -1}, {0, 16, 0, -1}, {0, 1, 2, -1}, {9, 1, 0, -2}, {0, 9, 0, -2}, {2, 1, 0, -3},
            {0, 2, 0, -3}, {3, 1, 0, -3}, {0, 1, 1, -3}};
        for (int[] call : refused) {
            Run.due("refused", run.terms.unify(call[0], call[1], call[2]), call[3]);
            counts(run, 4, 4, 4);
            Run.due("BASE 3", run.terms.base(3, 0), 1);
            unifier(run, 1, 9, "a+b");
            put(run, 0, "x", "b");
            Run.due("none more", run.terms.set(2), -1);
        }
        run.read("c*c", 0);
        run.read("d", 1);
        put(run, 1, "x", "a");
        run.terms.solve(1);
        run.terms.match(0, 1);
        put(run, 0, "y", "a");
    }

    // ---- promises 18 to 21

    private static void bases() {
        Run.sentence("Of the latest unify() that found some: 0 BASES (0: both were empty), 1 USABLE ones, 2 UNKNOWNS. BAD");
        Run run = of("x+x+a", "y+b", 0, 2);
        counts(run, 5, 3, 4);
        for (int what : new int[] {-1, 3, LEAST, MOST}) {
            Run.due("what " + what, run.terms.bases(what), -1);
            Run.due("what " + what + " of none", new AcTerms().bases(what), -1);
        }
        Run.due("a later one", run.terms.unify(0, 0, 0), 1);
        counts(run, 0, 0, 0);
    }

    private static void basesNone() {
        Run.sentence("NONE: there was none, or it found none");
        for (int what = 0; what < 3; what++) {
            Run.due("there was none", new AcTerms().bases(what), -2);
        }
        Run run = Run.with("x", "a", "b", "x+x", "a+b");
        Run.due("refused", run.terms.unify(0, 9, 0), -2);
        Run.due("there was none", run.terms.bases(0), -2);
        Run.due("one", run.terms.unify(0, 1, 0), 1);
        Run.due("one BASE", run.terms.bases(0), 1);
        Run.due("none, and no BASE", run.terms.unify(1, 2, 0), 0);
        counts(run, -2, -2, -2);
        Run.due("one", run.terms.unify(0, 1, 0), 1);
        Run.due("none, though there are BASES", run.terms.unify(3, 4, 0), 0);
        counts(run, -2, -2, -2);
    }

    private static void base() {
        Run.sentence("What BASE i gives to UNKNOWN j. BAD (also: as NONE of bases())");
        Run run = of("x+x+x", "y", 0, 1);
        Run.due("the first", run.terms.base(0, 0), 1);
        Run.due("the last", run.terms.base(0, 1), 3);
        for (int n : new int[] {-1, 2, LEAST, MOST}) {
            Run.due("UNKNOWN " + n, run.terms.base(0, n), -1);
            Run.due("BASE " + n, run.terms.base(n, 0), -1);
        }
        Run.due("BASE 1", run.terms.base(1, 0), -1);
        Run.due("there was none", new AcTerms().base(0, 0), -1);
        run.read("x+x", 2);
        run.read("a+b", 3);
        Run.due("it found none", run.terms.unify(2, 3, 0), 0);
        Run.due("it found none", run.terms.base(0, 0), -1);
        Run.due("both were empty", run.terms.unify(2, 2, 0), 1);
        Run.due("both were empty", run.terms.base(0, 0), -1);
    }

    private static void set() {
        Run.sentence("The bits of UNIFIER i (0: both were empty). BAD");
        Run run = of("x+y", "a+b", 0, 2);
        Run.due("the first", run.terms.set(0), 6);
        Run.due("the last", run.terms.set(1), 9);
        for (int i : new int[] {-1, 2, LEAST, MOST}) {
            Run.due("UNIFIER " + i, run.terms.set(i), -1);
        }
        Run.due("both empty", run.terms.unify(0, 0, 0), 1);
        Run.due("both were empty", run.terms.set(0), 0);
        Run.due("UNIFIER 1", run.terms.set(1), -1);
        Run.due("there was none", new AcTerms().set(0), -1);
    }

    private static void othersStay() {
        Run.sentence("each other VARIABLE for itself");
        Run run = of("x+u", "u+a+b", 0, 1);
        put(run, 0, "u", "u");
        put(run, 0, "P", "P");
        Run.sentence("A SLOT's TERM with what UNIFIER i puts for VARIABLES (others stay)");
        put(run, 0, "u+x+P", "u+P+a+b");
        put(run, 0, "u*x*A", "u*A*(a+b)");
        put(run, 0, "d", "d");
        Run.due("to the last SLOT", run.terms.unified(0, 0, 15), 4);
        Run.due("u+a+b", run.printed(15), "u+a+b");
        Run.due("to the SLOT itself", run.terms.unified(0, 0, 0), 4);
        Run.due("u+a+b", run.printed(0), "u+a+b");
    }

    private static void unifiedRefused() {
        Run.sentence("UNIFIER i puts for VARIABLES (others stay) comes to a SLOT: NODES. BAD; NONE; FULL");
        Run run = of("x", "a+b+c", 0, 1);
        run.read("x+x+u+v", 2);
        run.read("x+x+x", 3);
        for (int i : new int[] {-1, 1, LEAST, MOST}) {
            Run.due("UNIFIER " + i, run.terms.unified(i, 2, 4), -1);
        }
        for (int slot : NO_SLOTS) {
            Run.due("SLOT " + slot, run.terms.unified(0, slot, 4), -1);
            Run.due("to SLOT " + slot, run.terms.unified(0, 2, slot), -1);
        }
        Run.due("NONE", run.terms.unified(0, 9, 4), -2);
        Run.due("9 PARTS", run.terms.unified(0, 3, 4), -4);
        Run.due("nothing came", run.terms.told(4, 0), -2);
        Run.due("9 PARTS to the SLOT itself", run.terms.unified(0, 3, 3), -4);
        Run.due("the SLOT stays", run.printed(3), "x+x+x");
        Run.due("8 PARTS", run.terms.unified(0, 2, 4), 9);
        Run.due("there was none", new AcTerms().unified(0, 0, 0), -1);
    }
}
