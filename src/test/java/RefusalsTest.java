/** What the document says of all refusals, for each refusal of each call. */
public final class RefusalsTest {
    private static final int OUT = 0, TERMS = 1, MATCHERS = 2, UNIFIERS = 3, BASIS = 4, NUMBERS = 5, TEXT = 6, SECTIONS = 7;
    /** A ROW with 101 SOLUTIONS in THE BASIS for SPAN 16. */
    private static final int[] ROW = {-7, 6, -7, -2, 6, 0};
    /** By SLOTS; 2 is no PATTERN, 3 and 4 are not for unify(); 6 and 7 have 17 BASES, 8 and 9 have 51 MATCHERS. */
    private static final String[] SLOTS = {"x+y", "a+b", "u+v+w+x+y", "A", "x+f(x)", "a+a+a+a+a+a+a+a", "u+u+u+u+v+v",
        "w+w+w+x+x+x+y", "w+x+y+y+z", "a+a+a+a+a+b+f(b)", "x+x+x", "P*b", "f(a,b)"};
    private static final int NO_PATTERN = 2, NEW_ONE = 3, MIXED = 4, EIGHT = 5, LEFT = 6, RIGHT = 7, MANY = 8, MANY_TERM = 9,
            THRICE = 10, FUNCTION = 12, EMPTY = 14;
    private static final String NINE = "a+a+a+a+a+a+a+a+a";

    private interface Call {
        int on(AcTerms terms);
    }

    public static void main(String[] args) {
        Run.sentence("BAD -1 (a number is not as told, or names nothing), NONE -2 (as told), NOT -3 (as told), FULL -4");
        Run.due("BAD", AcTerms.BAD, -1);
        Run.due("NONE", AcTerms.NONE, -2);
        Run.due("NOT", AcTerms.NOT, -3);
        Run.due("FULL", AcTerms.FULL, -4);
        changesNothing();
        Run.sentence("Refusals are answers, of several the first");
        firstOfTerms();
        firstOfMatching();
        firstOfSystems();
        firstOfUnifying();
        Run.end();
    }

    // ---- an object that has something of everything

    private static Run made(String text) {
        Run run = new Run();
        run.read("f(x,y+z)", 0);
        run.read("f(a+b+c,d+e)", 1);
        run.terms.match(0, 1);
        run.read("x", 0);
        run.read("a+b+c", 1);
        run.terms.unify(0, 1, 0);
        for (int slot = 0; slot < SLOTS.length; slot++) {
            run.read(SLOTS[slot], slot);
        }
        run.terms.system(1, ROW.length);
        for (int k = 0; k < ROW.length; k++) {
            run.terms.number(0, k, ROW[k]);
        }
        run.terms.solve(4);
        run.terms.print(1);
        run.typed(text);
        return run;
    }

    /** All that can be seen of one section; SLOT 15 is used for it. */
    private static String seen(Run run, int section) {
        switch (section) {
            case OUT:
                return run.out();
            case TERMS:
                return terms(run);
            case MATCHERS:
                return matchers(run);
            case UNIFIERS:
                return unifiers(run);
            case BASIS:
                return basis(run);
            case NUMBERS:
                return numbers(run);
            default:
                return run.terms.type(' ', 1) + " bytes, " + run.terms.read(15) + ", " + run.printed(15);
        }
    }

    private static String terms(Run run) {
        StringBuilder all = new StringBuilder();
        for (int slot = 0; slot < 16; slot++) {
            all.append(run.printed(slot)).append(' ');
        }
        return all.toString();
    }

    /** To SLOT 15, without what is in THE TEXT. */
    private static void readAnew(Run run, String text) {
        run.terms.read(15);
        run.read(text, 15);
    }

    private static String matchers(Run run) {
        StringBuilder all = new StringBuilder();
        readAnew(run, "x+f(y,z)");
        for (int i = 0; run.terms.instance(i, 15, 14) > 0; i++) {
            all.append(run.printed(14)).append(run.terms.matched(i, 0, 14)).append(' ');
        }
        return all.toString();
    }

    private static String unifiers(Run run) {
        StringBuilder all = new StringBuilder();
        for (int what = 0; what < 3; what++) {
            all.append(run.terms.bases(what)).append(' ');
        }
        for (int i = 0; i < 4; i++) {
            for (int j = 0; j < 5; j++) {
                all.append(run.terms.base(i, j)).append(' ');
            }
        }
        readAnew(run, "f(x,y)");
        for (int i = 0; run.terms.unified(i, 15, 14) > 0; i++) {
            all.append(run.terms.set(i)).append(run.printed(14)).append(' ');
        }
        return all.toString();
    }

    private static String basis(Run run) {
        StringBuilder all = new StringBuilder();
        for (int i = 0; run.terms.solution(i, 0) >= 0; i++) {
            for (int j = 0; j <= ROW.length; j++) {
                all.append(run.terms.solution(i, j)).append(' ');
            }
        }
        return all.toString();
    }

    private static String numbers(Run run) {
        StringBuilder all = new StringBuilder();
        for (int n = 0; n < 28; n++) {
            all.append(run.terms.number(n / 7, n % 7, 0)).append(' ');
        }
        return all.toString();
    }

    // ---- what is refused changes nothing, but as told

    private static void changesNothing() {
        Run.sentence("What is refused changes nothing, but as told");
        String ordinary = "a+b*c";
        for (int section = 0; section < SECTIONS; section++) {
            Run.due("there is something to see", seen(made(ordinary), section).equals(seen(new Run(), section)) ? 1 : 0, 0);
            Run.due("the same twice", seen(made(ordinary), section), seen(made(ordinary), section));
        }
        termsChangeNothing(ordinary);
        matchingChangesNothing(ordinary);
        systemsChangeNothing(ordinary);
        unifyingChangesNothing(ordinary);
    }

    /** 'changed' is the one section that is then as that of a new object; -1 for none. */
    private static void refused(String name, int due, int changed, String text, Call call) {
        for (int section = 0; section < SECTIONS; section++) {
            Run run = made(text);
            Run.due(name, call.on(run.terms), due);
            String want = section == changed ? seen(new Run(), section) : seen(made(text), section);
            Run.due(name + " and section " + section, seen(run, section), want);
        }
    }

    private static void termsChangeNothing(String text) {
        refused("type n", -1, -1, text, t -> t.type('a', 0));
        refused("type n 9", -1, -1, text, t -> t.type('a', 9));
        refused("type, the last byte", -1, -1, text, t -> t.type(Run.packed("abc") << 8 | 127, 4));
        refused("type, the first byte", -1, -1, text, t -> t.type(Run.packed("abc") | 31L << 24, 4));
        refused("type FULL", -4, -1, " ".repeat(59) + "a", t -> t.type(Run.packed("+bcde"), 5));
        refused("read BAD", -1, -1, text, t -> t.read(16));
        refused("read FAULT", -12, TEXT, "a+", t -> t.read(0));
        refused("read FULL", -4, TEXT, NINE, t -> t.read(0));
        refused("told SLOT", -1, -1, text, t -> t.told(16, 0));
        refused("told what", -1, -1, text, t -> t.told(0, 5));
        refused("told NONE", -2, -1, text, t -> t.told(EMPTY, 0));
        refused("part SLOT", -1, -1, text, t -> t.part(-1, 0, 1));
        refused("part to", -1, -1, text, t -> t.part(FUNCTION, 0, 16));
        refused("part i", -1, -1, text, t -> t.part(FUNCTION, 2, 1));
        refused("part NONE", -2, -1, text, t -> t.part(EMPTY, 0, 1));
        refused("order BAD", -1, -1, text, t -> t.order(0, 16));
        refused("order NONE", -2, -1, text, t -> t.order(0, EMPTY));
        refused("join s", -1, -1, text, t -> t.join(16, 1, 0, 1));
        refused("join t", -1, -1, text, t -> t.join(0, -1, 0, 1));
        refused("join symbol", -1, -1, text, t -> t.join(0, 1, 2, 1));
        refused("join to", -1, -1, text, t -> t.join(0, 1, 0, 16));
        refused("join NONE", -2, -1, text, t -> t.join(0, EMPTY, 0, 1));
        refused("join FULL", -4, -1, text, t -> t.join(EIGHT, 1, 0, 1));
        refused("print BAD", -1, -1, text, t -> t.print(16));
        refused("print NONE", -2, -1, text, t -> t.print(EMPTY));
        refused("out NONE", -2, -1, text, t -> t.out(3));
    }

    private static void matchingChangesNothing(String text) {
        refused("match PATTERN", -1, -1, text, t -> t.match(16, 1));
        refused("match TERM", -1, -1, text, t -> t.match(0, -1));
        refused("match NONE", -2, -1, text, t -> t.match(EMPTY, 1));
        refused("match NONE", -2, -1, text, t -> t.match(0, EMPTY));
        refused("match NOT, the PATTERN", -3, -1, text, t -> t.match(NO_PATTERN, 1));
        refused("match NOT, the TERM", -3, -1, text, t -> t.match(0, 0));
        refused("match FULL", -4, MATCHERS, text, t -> t.match(MANY, MANY_TERM));
        refused("matched i", -1, -1, text, t -> t.matched(2, 3, 1));
        refused("matched VARIABLE", -1, -1, text, t -> t.matched(0, 22, 1));
        refused("matched to", -1, -1, text, t -> t.matched(0, 3, 16));
        refused("matched NONE", -2, -1, text, t -> t.matched(0, 0, 1));
        refused("instance i", -1, -1, text, t -> t.instance(2, 0, 1));
        refused("instance SLOT", -1, -1, text, t -> t.instance(0, -1, 1));
        refused("instance to", -1, -1, text, t -> t.instance(0, 0, 16));
        refused("instance NONE", -2, -1, text, t -> t.instance(0, EMPTY, 1));
        refused("instance FULL", -4, -1, text, t -> t.instance(0, THRICE, 1));
    }

    private static void systemsChangeNothing(String text) {
        refused("system ROWS", -1, -1, text, t -> t.system(4, 1));
        refused("system UNKNOWNS", -1, -1, text, t -> t.system(1, 7));
        refused("number ROW", -1001, -1, text, t -> t.number(1, 0, 1));
        refused("number UNKNOWN", -1001, -1, text, t -> t.number(0, 6, 1));
        refused("number v", -1001, -1, text, t -> t.number(0, 0, 10));
        refused("solve 0", -1, -1, text, t -> t.solve(0));
        refused("solve 17", -1, -1, text, t -> t.solve(17));
        refused("solve FULL", -4, BASIS, text, t -> t.solve(16));
        refused("solution i", -1, -1, text, t -> t.solution(100, 0));
        refused("solution j", -1, -1, text, t -> t.solution(0, 6));
    }

    private static void unifyingChangesNothing(String text) {
        refused("unify s", -1, -1, text, t -> t.unify(16, 1, 0));
        refused("unify t", -1, -1, text, t -> t.unify(0, 16, 0));
        refused("unify symbol", -1, -1, text, t -> t.unify(0, 1, 2));
        refused("unify NONE", -2, -1, text, t -> t.unify(EMPTY, 1, 0));
        refused("unify NONE", -2, -1, text, t -> t.unify(0, EMPTY, 0));
        refused("unify NOT, a new VARIABLE", -3, -1, text, t -> t.unify(0, NEW_ONE, 0));
        refused("unify NOT, a PART", -3, -1, text, t -> t.unify(MIXED, 1, 0));
        refused("unify FULL", -4, UNIFIERS, text, t -> t.unify(LEFT, RIGHT, 0));
        refused("bases BAD", -1, -1, text, t -> t.bases(3));
        refused("base i", -1, -1, text, t -> t.base(3, 0));
        refused("base j", -1, -1, text, t -> t.base(0, 4));
        refused("set BAD", -1, -1, text, t -> t.set(1));
        refused("unified i", -1, -1, text, t -> t.unified(1, 0, 1));
        refused("unified SLOT", -1, -1, text, t -> t.unified(0, 16, 1));
        refused("unified to", -1, -1, text, t -> t.unified(0, 0, -1));
        refused("unified NONE", -2, -1, text, t -> t.unified(0, EMPTY, 1));
        refused("unified FULL", -4, -1, text, t -> t.unified(0, THRICE, 1));
    }

    // ---- of several the first

    private static void first(String several, int due, Call call) {
        Run.due(several, call.on(made("a+b*c").terms), due);
    }

    private static void firstOfTerms() {
        AcTerms full = made(" ".repeat(64)).terms;
        Run.due("type: BAD of n, FULL", full.type(Run.packed("a"), 9), -1);
        Run.due("type: BAD of a byte, FULL", full.type(31, 1), -1);
        Run.due("type: FULL", full.type(32, 1), -4);
        Run.due("read: BAD, a FAULT", made("a+").terms.read(16), -1);
        Run.due("read: BAD, FULL", made(NINE).terms.read(-1), -1);
        Run.due("read: a FAULT, FULL", made(NINE + "+").terms.read(0), -28);
        first("told: BAD of what, NONE", -1, t -> t.told(EMPTY, 5));
        first("part: BAD of to, NONE", -1, t -> t.part(EMPTY, 0, 16));
        first("part: NONE, BAD of i", -2, t -> t.part(EMPTY, 9, 1));
        first("part: BAD of to, NONE, BAD of i", -1, t -> t.part(EMPTY, -1, 16));
        first("order: BAD, NONE", -1, t -> t.order(16, EMPTY));
        first("order: NONE, BAD", -1, t -> t.order(EMPTY, 16));
        first("join: BAD of s, NONE", -1, t -> t.join(16, EMPTY, 0, 1));
        first("join: BAD of t, NONE", -1, t -> t.join(EMPTY, 16, 0, 1));
        first("join: BAD of symbol, NONE", -1, t -> t.join(EMPTY, 1, 2, 1));
        first("join: BAD of to, NONE", -1, t -> t.join(EMPTY, 1, 0, 16));
        first("join: BAD of to, FULL", -1, t -> t.join(EIGHT, 1, 0, 16));
        first("join: NONE, and too much in the other", -2, t -> t.join(EIGHT, EMPTY, 0, 1));
    }

    private static void firstOfMatching() {
        first("match: BAD, NONE", -1, t -> t.match(EMPTY, 16));
        first("match: BAD, NONE", -1, t -> t.match(16, EMPTY));
        first("match: BAD, NOT of the PATTERN", -1, t -> t.match(NO_PATTERN, 16));
        first("match: BAD, NOT of the TERM", -1, t -> t.match(16, 0));
        first("match: NONE, NOT of the PATTERN", -2, t -> t.match(NO_PATTERN, EMPTY));
        first("match: NONE, NOT of the TERM", -2, t -> t.match(EMPTY, 0));
        Run run = made("");
        run.read("a+b+c+d+e+f(a)+f(b)+f(c)", 1);
        run.read("u+v+w+x+y+y", 2);
        Run.due("match: NOT, FULL", run.terms.match(2, 1), -3);
        first("matched: BAD of i, NONE", -1, t -> t.matched(2, 0, 1));
        first("matched: BAD of to, NONE", -1, t -> t.matched(0, 0, 16));
        first("instance: BAD of i, NONE", -1, t -> t.instance(2, EMPTY, 1));
        first("instance: BAD of to, NONE", -1, t -> t.instance(0, EMPTY, 16));
        first("instance: BAD of to, FULL", -1, t -> t.instance(0, THRICE, 16));
    }

    private static void firstOfSystems() {
        first("solve: BAD, FULL", -1, t -> t.solve(17));
        first("solve: BAD, FULL", -1, t -> t.solve(Integer.MAX_VALUE));
        first("number: BAD twice", -1001, t -> t.number(3, 7, 10));
        first("system: BAD twice", -1, t -> t.system(4, 7));
    }

    private static void firstOfUnifying() {
        first("unify: BAD of t, NONE", -1, t -> t.unify(EMPTY, 16, 0));
        first("unify: BAD of s, NONE", -1, t -> t.unify(-1, EMPTY, 0));
        first("unify: BAD of symbol, NONE", -1, t -> t.unify(EMPTY, 1, 2));
        first("unify: BAD of symbol, NOT", -1, t -> t.unify(NEW_ONE, 1, 2));
        first("unify: BAD of t, NOT", -1, t -> t.unify(NEW_ONE, 16, 0));
        first("unify: BAD of symbol, FULL", -1, t -> t.unify(LEFT, RIGHT, -1));
        first("unify: NONE, NOT", -2, t -> t.unify(NEW_ONE, EMPTY, 0));
        first("unify: NONE, NOT", -2, t -> t.unify(EMPTY, MIXED, 0));
        Run run = made("");
        run.read("u+u+u+u+v+v+f(z)", LEFT);
        Run.due("unify: NOT, FULL", run.terms.unify(LEFT, RIGHT, 0), -3);
        run.read("u+u+u+u+v+v", LEFT);
        run.read("w+w+w+x+x+x+y+A", RIGHT);
        Run.due("unify: NOT, FULL", run.terms.unify(LEFT, RIGHT, 0), -3);
        Run.due("bases: BAD, NONE", new AcTerms().bases(3), -1);
        first("unified: BAD of i, NONE", -1, t -> t.unified(1, EMPTY, 1));
        first("unified: BAD of to, NONE", -1, t -> t.unified(0, EMPTY, 16));
        first("unified: BAD of to, FULL", -1, t -> t.unified(0, THRICE, 16));
    }
}
