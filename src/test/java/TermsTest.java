/** Promises 1 to 9: a new object, type, read, told, part, order, join, print, out. */
public final class TermsTest {
    public static void main(String[] args) {
        constants();
        newObject();
        type();
        read();
        faults();
        brackets();
        full();
        told();
        part();
        order();
        join();
        print();
        Run.end();
    }

    private static void constants() {
        Run.due("BAD", AcTerms.BAD, -1);
        Run.due("NONE", AcTerms.NONE, -2);
        Run.due("NOT", AcTerms.NOT, -3);
        Run.due("FULL", AcTerms.FULL, -4);
    }

    private static void newObject() {
        AcTerms terms = new AcTerms();
        for (int slot = 0; slot < 16; slot++) {
            Run.due("told of a new SLOT", terms.told(slot, 0), -2);
        }
        Run.due("out of a new object", terms.out(0), -2);
        Run.due("matched of a new object", terms.matched(0, 0, 0), -1);
        Run.due("bases of a new object", terms.bases(0), -2);
        Run.due("base of a new object", terms.base(0, 0), -1);
        Run.due("set of a new object", terms.set(0), -1);
        Run.due("solution of a new object", terms.solution(0, 0), -1);
        Run.due("the only NUMBER", terms.number(0, 0, 0), 0);
        Run.due("no second ROW", terms.number(1, 0, 0), -1001);
        Run.due("no second UNKNOWN", terms.number(0, 1, 0), -1001);
        Run.due("THE TEXT is empty: the FAULT is its end", terms.read(0), -10);
    }

    private static void type() {
        Run run = new Run();
        AcTerms terms = run.terms;
        Run.due("n 0", terms.type(97, 0), -1);
        Run.due("n -1", terms.type(97, -1), -1);
        Run.due("n 9", terms.type(97, 9), -1);
        Run.due("byte 31", terms.type(31, 1), -1);
        Run.due("byte 127", terms.type(127, 1), -1);
        Run.due("byte 255", terms.type(-1L, 1), -1);
        Run.due("a bad byte behind a good one", terms.type(0x6110, 2), -1);
        Run.due("a bad byte ahead of a good one", terms.type(0x1061, 2), -1);
        Run.due("a byte 0 within n", terms.type(97, 2), -1);
        Run.due("only the lowest bytes count", terms.type(0x7F00000000000061L, 1), 1);
        Run.due("the highest of these comes first", terms.type(Run.packed("*c+d"), 4), 5);
        Run.due("NODES", terms.read(0), 5);
        Run.due("a*c+d", run.printed(0), "d+a*c");
        Run.due("THE TEXT is empty again", terms.type(Run.packed(" "), 1), 1);
        Run.due("54 more", run.typed(" ".repeat(54)), 55);
        Run.due("up to 63", terms.type(Run.packed("        "), 8), 63);
        Run.due("65 bytes", terms.type(Run.packed("ab"), 2), -4);
        Run.due("BAD goes ahead of FULL", terms.type(31, 1), -1);
        Run.due("64 bytes", terms.type(Run.packed("e"), 1), 64);
        Run.due("FULL", terms.type(97, 1), -4);
        Run.due("FULL left THE TEXT", terms.read(1), 1);
        Run.due("its only letter", run.printed(1), "e");
    }

    private static void read() {
        Run run = new Run();
        run.typed("a");
        Run.due("SLOT 16", run.terms.read(16), -1);
        Run.due("SLOT -1", run.terms.read(-1), -1);
        Run.due("by BAD THE TEXT stays", run.terms.read(15), 1);
        Run.due("then it is empty", run.terms.read(15), -10);
        Run.due("a FAULT leaves the SLOT", run.printed(15), "a");
        Run.due("FAULT", run.read("b+", 15), -12);
        Run.due("a FAULT empties THE TEXT", run.read("b", 15), 1);
        Run.due("f, g, h of one to three PARTS", run.read("f(a)+g(a,b)+h(a,b,c)", 0), 10);
        Run.due("printed", run.printed(0), "f(a)+g(a,b)+h(a,b,c)");
        String letters = "u+v+w+x+y+z+A+B";
        Run.due("8 VARIABLES", run.read(letters, 0), 9);
        Run.due(letters, run.printed(0), letters);
        Run.due("8 more", run.read("C+D+E+F+G+H+I+J", 0), 9);
        Run.due("the last ones", run.read("f(K+L+M,N+O,P)", 0), 9);
        Run.due("and CONSTANTS", run.read("a+b+c+d+e", 0), 6);
        Run.due("blanks count for nothing", run.read("  f ( a , ( b ) )  + a ", 0), 5);
        Run.due("printed without them", run.printed(0), "a+f(a,b)");
        Run.due("* ahead of +", run.read("a+b*c+d", 0), 6);
        Run.due("printed a+d+b*c", run.printed(0), "a+d+b*c");
        Run.due("brackets that change nothing", run.read("(a+(b+c))+((d))*(e*a)", 0), 8);
        Run.due("flat", run.printed(0), "a+b+c+a*d*e");
    }

    private static void faults() {
        fault("", 0);
        fault("   ", 3);
        fault("Q", 0);
        fault("  Q", 2);
        fault("i", 0);
        fault("1", 0);
        fault("+", 0);
        fault(")", 0);
        fault("a+", 2);
        fault("a+ ", 3);
        fault("a*+b", 2);
        fault("a b", 2);
        fault("ab", 1);
        fault("a)", 1);
        fault("a,b", 1);
        fault("(a", 2);
        fault("(a,b)", 2);
        fault("()", 1);
        fault("f", 1);
        fault("f a", 2);
        fault("f()", 2);
        fault("f(a", 3);
        fault("f(a,", 4);
        fault("f(a,)", 4);
        fault("f(a,b,c", 7);
        fault("f(a,b,c,d)", 7);
        fault("f(a,b,c ,d)", 8);
        fault("f(a)(", 4);
        fault("a+b*c+f(x*y,~)", 12);
    }

    private static void fault(String text, int place) {
        Run run = new Run();
        Run.due("read of \"" + text + "\"", run.read(text, 0), -10 - place);
        Run.due("told behind it", run.terms.told(0, 0), -2);
    }

    private static void brackets() {
        Run run = new Run();
        Run.due("8 open", run.read("((((((((a))))))))", 0), 1);
        Run.due("9 open", run.read("(((((((((a)))))))))", 0), -18);
        Run.due("8 open, FUNCTIONS' ones too", run.read("f((g((h((f((a))))))))", 0), 5);
        Run.due("9 open, the last one a FUNCTION's", run.read("((((((((f(a)))))))))", 0), -19);
        Run.due("a blank ahead of the ninth", run.read("((((((((f (a)))))))))", 0), -20);
        Run.due("closed ones count no more", run.read("((((((((a))))))))+((((((((b))))))))", 0), 3);
    }

    private static void full() {
        Run run = new Run();
        run.read("a", 0);
        Run.due("9 PARTS", run.read("a+a+a+a+a+a+a+a+a", 0), -4);
        Run.due("FULL leaves the SLOT", run.printed(0), "a");
        Run.due("FULL empties THE TEXT", run.read("b", 0), 1);
        Run.due("8 PARTS", run.read("a+a+a+a+a+a+a+a", 0), 9);
        Run.due("9 PARTS by brackets", run.read("(a+a+a+a)*b+(a+a+a+a+(a+a+a+a))", 0), -4);
        Run.due("9 PARTS of a PRODUCT", run.read("a*a*a*a*(a*a*a*a)*a", 0), -4);
        Run.due("8 PARTS each", run.read("(a+a+a+a+a+a+a+a)*(b+b+b+b+b+b+b+b)", 0), 19);
        Run.due("a FAULT goes ahead of FULL", run.read("a+a+a+a+a+a+a+a+a+", 0), -28);
        String seven = "a*a*a*a+".repeat(7);
        Run.due("40 NODES", run.read(seven + "a*a*a", 1), 40);
        Run.due("41 NODES", run.read(seven + "a*a*a*a", 1), -4);
        Run.due("a FAULT goes ahead of that FULL too", run.read(seven + "a*a*a*aa", 1), -73);
    }

    private static void told() {
        Run run = new Run();
        AcTerms terms = run.terms;
        run.read("P", 0);
        run.read("e", 1);
        run.read("h(x,y+x,u*v*a)", 2);
        run.read("x*y+x", 3);
        run.read("f(x)*f(x)*z", 4);
        int[][] due = {{0, 21, 0, 1, 1}, {1, 4, 0, 1, 0}, {2, 2, 3, 9, 4}, {3, 0, 2, 5, 2}, {4, 0, 3, 6, 2}};
        for (int slot = 0; slot < due.length; slot++) {
            for (int what = 0; what < 5; what++) {
                Run.due("told(" + slot + ", " + what + ")", terms.told(slot, what), due[slot][what]);
            }
        }
        Run.due("what -1", terms.told(0, -1), -1);
        Run.due("what 5", terms.told(0, 5), -1);
        Run.due("SLOT -1", terms.told(-1, 0), -1);
        Run.due("SLOT 16", terms.told(16, 0), -1);
        Run.due("BAD ahead of NONE", terms.told(9, 5), -1);
        Run.due("NONE", terms.told(9, 4), -2);
    }

    private static void part() {
        Run run = new Run();
        AcTerms terms = run.terms;
        run.read("b*a+e+f(b,a)+x", 0);
        String[] parts = {"x", "e", "f(b,a)", "a*b"};
        for (int i = 0; i < parts.length; i++) {
            Run.due("NODES", terms.part(0, i, 1), i < 2 ? 1 : 3);
            Run.due("PART " + i, run.printed(1), parts[i]);
        }
        Run.due("PART 4", terms.part(0, 4, 1), -1);
        Run.due("PART -1", terms.part(0, -1, 1), -1);
        Run.due("BAD changes nothing", run.printed(1), "a*b");
        Run.due("a FUNCTION's PARTS stand in their order", terms.part(0, 2, 2), 3);
        Run.due("the first one", terms.part(2, 0, 3), 1);
        Run.due("b", run.printed(3), "b");
        Run.due("a CONSTANT has none", terms.part(3, 0, 3), -1);
        Run.due("to the same SLOT", terms.part(0, 3, 0), 3);
        Run.due("a*b", run.printed(0), "a*b");
        Run.due("NONE", terms.part(9, 0, 0), -2);
        Run.due("NONE ahead of i", terms.part(9, -1, 0), -2);
        Run.due("BAD of SLOTS ahead of NONE", terms.part(9, 0, 16), -1);
        Run.due("SLOT 16", terms.part(16, 0, 0), -1);
        Run.due("to -1", terms.part(0, 0, -1), -1);
    }

    private static void order() {
        String[] ascending = {"u", "z", "A", "P", "a", "e", "f(P)", "f(a)", "f(e+a)", "f(a*a)", "f(u,u)", "f(a,a)",
            "f(a,b)", "f(b,a)", "f(u,u,u)", "g(u)", "h(a)", "u+v", "u+a", "a+a", "b+a", "a+c", "a+b*b", "b+b",
            "u+u+u", "a+a+b", "a+b+b", "u*v", "a*b", "a*(a+b)", "u*u*u", "a*b*c"};
        Run run = new Run();
        for (int i = 0; i < ascending.length; i++) {
            for (int k = 0; k < ascending.length; k++) {
                if (k % 8 == 0) {
                    run = new Run();
                    run.read(ascending[i], 0);
                }
                run.read(ascending[k], 1);
                Run.due(ascending[i] + " to " + ascending[k], run.terms.order(0, 1), i == k ? 0 : i < k ? 1 : 2);
            }
        }
        run.read("a+b*(c+d)", 0);
        run.read("(d+c)*b+a", 1);
        Run.due("EQUAL ones", run.terms.order(0, 1), 0);
        Run.due("a SLOT with itself", run.terms.order(0, 0), 0);
        Run.due("NONE", run.terms.order(0, 9), -2);
        Run.due("NONE first", run.terms.order(9, 0), -2);
        Run.due("BAD", run.terms.order(-1, 9), -1);
        Run.due("BAD second", run.terms.order(9, 16), -1);
    }

    private static void join() {
        Run run = new Run();
        AcTerms terms = run.terms;
        run.read("c+a", 0);
        run.read("b*a", 1);
        Run.due("SUM", terms.join(0, 1, 0, 2), 6);
        Run.due("its PARTS", run.printed(2), "a+c+a*b");
        Run.due("PRODUCT", terms.join(0, 1, 1, 2), 6);
        Run.due("its PARTS", run.printed(2), "a*b*(a+c)");
        Run.due("with itself, to itself", terms.join(0, 0, 0, 0), 5);
        Run.due("PARTS several times", run.printed(0), "a+a+c+c");
        Run.due("8 PARTS", terms.join(0, 0, 0, 0), 9);
        Run.due("9 PARTS", terms.join(0, 1, 0, 2), -4);
        Run.due("FULL leaves the SLOT", run.printed(2), "a*b*(a+c)");
        Run.due("16 PARTS", terms.join(0, 0, 0, 2), -4);
        run.read("f(a+b+c,a*b*c,d)", 3);
        terms.join(3, 3, 1, 5);
        Run.due("21 NODES", terms.told(5, 3), 21);
        Run.due("43 NODES", terms.join(5, 5, 0, 6), -4);
        run.read("h(a,b,c)*d*e*f(a)*f(a)*f(b)*b*f(c)", 6);
        Run.due("16 NODES", terms.told(6, 3), 16);
        run.read("u", 7);
        terms.join(6, 5, 0, 8);
        Run.due("38 NODES", terms.told(8, 3), 38);
        Run.due("39 NODES", terms.join(8, 7, 0, 8), 39);
        Run.due("40 NODES", terms.join(8, 7, 0, 8), 40);
        Run.due("41 NODES", terms.join(8, 7, 0, 8), -4);
        Run.due("symbol 2", terms.join(0, 1, 2, 2), -1);
        Run.due("symbol -1", terms.join(0, 1, -1, 2), -1);
        Run.due("SLOT s", terms.join(16, 1, 0, 2), -1);
        Run.due("SLOT t", terms.join(0, -1, 0, 2), -1);
        Run.due("SLOT to", terms.join(0, 1, 0, 16), -1);
        Run.due("BAD ahead of NONE", terms.join(15, 1, 0, 16), -1);
        Run.due("NONE s", terms.join(15, 1, 0, 2), -2);
        Run.due("NONE t", terms.join(1, 15, 1, 2), -2);
    }

    private static void print() {
        printed("x", "x");
        printed("(b+a)*(a+b)", "(a+b)*(a+b)");
        printed("a*b+b*a", "a*b+a*b");
        printed("f(b+a)*c", "c*f(a+b)");
        printed("h((a*b+c)*d,z,f(z)*x)", "h(d*(c+a*b),z,x*f(z))");
        printed("((a+b)*c+d)*e", "e*(d+c*(a+b))");
        Run run = new Run();
        run.read("f(a)", 0);
        run.terms.print(0);
        Run.due("NONE", run.terms.print(1), -2);
        Run.due("BAD", run.terms.print(16), -1);
        Run.due("BAD", run.terms.print(-1), -1);
        Run.due("THE OUT stays by refusals", run.out(), "f(a)");
        Run.due("out(-1)", run.terms.out(-1), -2);
        Run.due("out behind its end", run.terms.out(4), -2);
        Run.due("out far behind", run.terms.out(Integer.MAX_VALUE), -2);
        Run.due("out far ahead", run.terms.out(Integer.MIN_VALUE), -2);
        run.read("b", 0);
        run.terms.print(0);
        Run.due("a shorter OUT has no rest of the one before", run.out(), "b");
    }

    private static void printed(String text, String due) {
        Run run = new Run();
        run.read(text, 0);
        Run.due("print of " + text, run.printed(0), due);
        Run.due("what is printed can be read again", run.read(due, 1), run.terms.told(0, 3));
        Run.due("and is EQUAL", run.terms.order(0, 1), 0);
    }
}
