/** Each sentence of promises 1 to 9 that names a boundary case, with a test of its own. */
public final class TermCallEdgesTest {
    private static final int LEAST = Integer.MIN_VALUE;
    private static final int MOST = Integer.MAX_VALUE;
    private static final int[] NO_SLOTS = {-1, 16, LEAST, MOST};

    public static void main(String[] args) {
        noTerms();
        textAndOutEmpty();
        noMatchersNoUnifiers();
        firstSystem();
        calls512();
        lowestBytes();
        typeBad();
        typeFull();
        emptyThen();
        slotStays();
        readBad();
        told();
        toldBad();
        partTo();
        partBad();
        order();
        join();
        joinFull();
        print();
        out();
        Run.end();
    }

    // ---- promise 1

    private static void noTerms() {
        Run.sentence("No TERMS");
        Run run = new Run();
        for (int slot = 0; slot < 16; slot++) {
            Run.due("SLOT " + slot, run.terms.told(slot, 0), -2);
            Run.due("SLOT " + slot, run.terms.print(slot), -2);
        }
    }

    private static void textAndOutEmpty() {
        Run.sentence("THE TEXT, THE OUT are empty");
        Run.due("THE TEXT has one byte behind one", new AcTerms().type('a', 1), 1);
        Run.due("THE TEXT's FAULT is at its end", new AcTerms().read(0), -10);
        Run.due("THE OUT has no byte", new AcTerms().out(0), -2);
    }

    private static void noMatchersNoUnifiers() {
        Run.sentence("no MATCHERS, no UNIFIERS");
        Run run = Run.with("a");
        Run.due("matched", run.terms.matched(0, 0, 1), -1);
        Run.due("instance", run.terms.instance(0, 0, 1), -1);
        Run.due("bases", run.terms.bases(0), -2);
        Run.due("base", run.terms.base(0, 0), -1);
        Run.due("set", run.terms.set(0), -1);
        Run.due("unified", run.terms.unified(0, 0, 1), -1);
    }

    private static void firstSystem() {
        Run.sentence("the SYSTEM has one ROW of one UNKNOWN, its NUMBER 0; no BASIS");
        Run.due("solution", new AcTerms().solution(0, 0), -1);
        Run.due("the NUMBER", new AcTerms().number(0, 0, 9), 0);
        Run.due("a second ROW", new AcTerms().number(1, 0, 0), -1001);
        Run.due("a second UNKNOWN", new AcTerms().number(0, 1, 0), -1001);
        AcTerms terms = new AcTerms();
        Run.due("solve", terms.solve(1), 1);
        Run.due("the one number", terms.solution(0, 0), 1);
        Run.due("no second number", terms.solution(0, 1), -1);
    }

    private static void calls512() {
        Run.sentence("An object is used for at most 512 calls after it has been made");
        AcTerms terms = new AcTerms();
        terms.type(Run.packed("x+y"), 3);
        terms.read(0);
        terms.type(Run.packed("a+b+c"), 5);
        terms.read(1);
        int calls = 4;
        while (calls + 6 <= 511) {
            Run.due("match", terms.match(0, 1), 6);
            Run.due("instance", terms.instance(5, 0, 2), 4);
            Run.due("unify", terms.unify(0, 1, 0), 6);
            Run.due("unified", terms.unified(5, 0, 2), 4);
            Run.due("solve", terms.solve(16), 1);
            Run.due("print", terms.print(2), 5);
            calls += 6;
        }
        while (calls < 511) {
            Run.due("order", terms.order(1, 2), 0);
            calls++;
        }
        Run.due("call 512", terms.join(1, 2, 0, 3), 7);
    }

    // ---- promise 2

    private static void lowestBytes() {
        Run.sentence("The n lowest bytes (1 .. 8) of w, of these the highest first, come behind THE TEXT: how many it has");
        Run run = new Run();
        long w = Run.packed("g(a,b,c)");
        Run.due("8 bytes", run.terms.type(w, 8), 8);
        Run.due("behind them", run.terms.type(Run.packed("+"), 1), 9);
        Run.due("read", run.terms.type(Run.packed("f(d)"), 4), 13);
        Run.due("NODES", run.terms.read(0), 7);
        Run.due("printed", run.printed(0), "f(d)+g(a,b,c)");
        for (int n = 1; n <= 8; n++) {
            run = new Run();
            Run.due("the lowest " + n, run.terms.type(Run.packed("abcdexyz"), n), n);
            Run.due("their FAULT is the second one, or none", run.terms.read(0), n == 1 ? 1 : -11);
            run = new Run();
            Run.due("bytes above the lowest " + n, run.terms.type(n < 8 ? -1L << 8 * n | blanks(n) : blanks(n), n), n);
        }
        run = new Run();
        run.terms.type(Run.packed("a*x+yP"), 2);
        Run.due("of two the highest first", run.terms.read(0), -11);
        run.terms.type(Run.packed("~~~~~x+y"), 3);
        Run.due("only three of eight", run.terms.read(0), 3);
        Run.due("printed", run.printed(0), "x+y");
    }

    private static long blanks(int n) {
        return Run.packed(" ".repeat(n));
    }

    private static void typeBad() {
        Run.sentence("BAD: n, a byte is not 32 .. 126");
        AcTerms terms = new AcTerms();
        for (int n : new int[] {0, -1, 9, LEAST, MOST, 64, 256 + 1}) {
            Run.due("n " + n, terms.type(blanks(8), n), -1);
        }
        for (int place = 0; place < 8; place++) {
            for (int bad : new int[] {0, 31, 127, 128, 255}) {
                long w = blanks(8) & ~(255L << 8 * place) | (long) bad << 8 * place;
                Run.due("byte " + bad + " at " + place, terms.type(w, 8), -1);
                if (place > 0) {
                    Run.due("byte " + bad + " as the highest of " + (place + 1), terms.type(w, place + 1), -1);
                }
            }
        }
        Run.due("the least and the greatest byte", terms.type(Run.packed(" ~"), 2), 2);
    }

    private static void typeFull() {
        Run.sentence("FULL: 64");
        Run run = new Run();
        Run.due("56 bytes", run.typed(" ".repeat(56)), 56);
        Run.due("64 bytes by 8", run.terms.type(blanks(8), 8), 64);
        for (int n = 1; n <= 8; n++) {
            Run.due("FULL by " + n, run.terms.type(blanks(n), n), -4);
        }
        for (int n = 2; n <= 8; n++) {
            run = new Run();
            Run.due("up to " + (65 - n), run.typed(" ".repeat(65 - n)), 65 - n);
            Run.due("65 bytes by " + n, run.terms.type(blanks(n), n), -4);
            Run.due("FULL has put none of them", run.terms.type(blanks(n - 1), n - 1), 64);
        }
    }

    // ---- promise 3

    private static void emptyThen() {
        Run.sentence("THE TEXT, which is empty then (not by BAD), becomes the TERM of a SLOT");
        Run run = new Run();
        run.typed("a");
        Run.due("by a TERM", run.terms.read(0), 1);
        Run.due("empty", run.terms.type('b', 1), 1);
        run.typed("+");
        Run.due("by a FAULT", run.terms.read(0), -12);
        Run.due("empty", run.terms.type('b', 1), 1);
        run.typed("+a+a+a+a+a+a+a+a");
        Run.due("by FULL", run.terms.read(0), -4);
        Run.due("empty", run.terms.type('b', 1), 1);
        run.typed("+c");
        for (int slot : NO_SLOTS) {
            Run.due("by BAD", run.terms.read(slot), -1);
        }
        Run.due("not empty", run.terms.type('*', 1), 4);
        run.typed("d");
        Run.due("all of it is there", run.terms.read(0), 5);
        Run.due("all of it is there", run.printed(0), "b+c*d");
    }

    private static void slotStays() {
        Run.sentence("how many NODES; a FAULT; FULL (the SLOT stays)");
        Run run = Run.with("f(x)");
        Run.due("9 PARTS", run.read("a+a+a+a+a+a+a+a+a", 0), -4);
        Run.due("the SLOT stays", run.printed(0), "f(x)");
        Run.due("41 NODES", run.read("a*a*a*a+".repeat(7) + "a*a*a*a", 0), -4);
        Run.due("the SLOT stays", run.printed(0), "f(x)");
        Run.due("FAULT", run.read("a+", 0), -12);
        Run.due("the SLOT stays", run.printed(0), "f(x)");
        Run.due("a SLOT without a TERM", run.read("a+a+a+a+a+a+a+a+a", 1), -4);
        Run.due("has none", run.terms.told(1, 0), -2);
        Run.due("a TERM", run.read("a", 0), 1);
        Run.due("in place of the other", run.printed(0), "a");
    }

    private static void readBad() {
        Run.sentence("FULL (the SLOT stays). BAD");
        Run run = new Run();
        for (int slot = 0; slot < 16; slot++) {
            Run.due("SLOT " + slot, run.read("f(a)", slot), 2);
            Run.due("it has the TERM", run.terms.told(slot, 0), 2);
        }
        for (int slot : NO_SLOTS) {
            Run.due("SLOT " + slot, run.terms.read(slot), -1);
        }
    }

    // ---- promise 4

    private static void told() {
        Run.sentence("Of a SLOT's TERM: 0 what it is (0 VARIABLE, 1 CONSTANT, 2 FUNCTION, 3 SUM, 4 PRODUCT), "
                + "1 its number (SUMS, PRODUCTS: 0), 2 PARTS (0), 3 NODES, 4 different VARIABLES in it");
        String all = "h(u+v+w+x+y+z+A+B,C+D+E+F+G+H+I+J,K+L+M+N+O+P)";
        tells("u", 0, 0, 0, 1, 1);
        tells("P", 0, 21, 0, 1, 1);
        tells("a", 1, 0, 0, 1, 0);
        tells("e", 1, 4, 0, 1, 0);
        tells("f(a)", 2, 0, 1, 2, 0);
        tells("h(P,P,P)", 2, 2, 3, 4, 1);
        tells("a+b", 3, 0, 2, 3, 0);
        tells("h(a)+P", 3, 0, 2, 4, 1);
        tells("x*x*x*x*x*x*x*x", 4, 0, 8, 9, 1);
        tells("x*f(y+x)*z", 4, 0, 3, 7, 3);
        tells(all, 2, 2, 3, 26, 22);
        tells("a*a*a*a+".repeat(7) + "a*a*a", 3, 0, 8, 40, 0);
    }

    private static void tells(String text, int... due) {
        Run run = Run.with(text);
        for (int what = 0; what < 5; what++) {
            Run.due(what + " of " + text, run.terms.told(0, what), due[what]);
        }
    }

    private static void toldBad() {
        Run.sentence("BAD; NONE: it has none");
        Run run = new Run();
        run.read("a", 15);
        for (int what : new int[] {-1, 5, LEAST, MOST}) {
            Run.due("what " + what, run.terms.told(15, what), -1);
            Run.due("what " + what + " of none", run.terms.told(0, what), -1);
        }
        for (int slot : NO_SLOTS) {
            Run.due("SLOT " + slot, run.terms.told(slot, 0), -1);
        }
        for (int what = 0; what < 5; what++) {
            Run.due("NONE, " + what, run.terms.told(14, what), -2);
        }
        Run.due("SLOT 15", run.terms.told(15, 0), 1);
    }

    // ---- promise 5

    private static void partTo() {
        Run.sentence("PART i of a SLOT's TERM comes to another SLOT (or the same): how many NODES");
        Run run = Run.with("f(a+b,c)");
        Run.due("another one", run.terms.part(0, 0, 15), 3);
        Run.due("a+b", run.printed(15), "a+b");
        Run.due("the SLOT keeps its own", run.printed(0), "f(a+b,c)");
        Run.due("the same one", run.terms.part(0, 1, 0), 1);
        Run.due("c", run.printed(0), "c");
    }

    private static void partBad() {
        Run.sentence("BAD: also i; NONE. (NONE behind BAD of SLOTS, ahead of i.)");
        Run run = Run.with("f(a,b)", "x", "e", "a+b");
        for (int i : new int[] {-1, 2, LEAST, MOST}) {
            Run.due("PART " + i + " of a FUNCTION", run.terms.part(0, i, 5), -1);
            Run.due("PART " + i + " of a SUM", run.terms.part(3, i, 5), -1);
            Run.due("NONE ahead of PART " + i, run.terms.part(9, i, 5), -2);
        }
        Run.due("a VARIABLE has no PART", run.terms.part(1, 0, 5), -1);
        Run.due("a CONSTANT has no PART", run.terms.part(2, 0, 5), -1);
        Run.due("nothing came", run.terms.told(5, 0), -2);
        for (int slot : NO_SLOTS) {
            Run.due("SLOT " + slot, run.terms.part(slot, 0, 5), -1);
            Run.due("to SLOT " + slot, run.terms.part(0, 0, slot), -1);
            Run.due("to SLOT " + slot + " ahead of NONE", run.terms.part(9, 0, slot), -1);
        }
        Run.due("NONE", run.terms.part(9, 0, 5), -2);
        Run.due("the last PART", run.terms.part(0, 1, 5), 1);
    }

    // ---- promises 6 to 9

    private static void order() {
        Run.sentence("Of two SLOTS' TERMS: 0 they are EQUAL, 1 the first one's is ahead by ORDER, 2 the other one's. BAD; NONE");
        Run run = Run.with("a", "b");
        run.read("a", 15);
        Run.due("EQUAL", run.terms.order(0, 15), 0);
        Run.due("a SLOT and itself", run.terms.order(1, 1), 0);
        Run.due("ahead", run.terms.order(0, 1), 1);
        Run.due("behind", run.terms.order(1, 15), 2);
        for (int slot : NO_SLOTS) {
            Run.due("SLOT " + slot + " first", run.terms.order(slot, 0), -1);
            Run.due("SLOT " + slot + " second", run.terms.order(0, slot), -1);
            Run.due("SLOT " + slot + " behind NONE", run.terms.order(9, slot), -1);
        }
        Run.due("NONE first", run.terms.order(9, 0), -2);
        Run.due("NONE second", run.terms.order(0, 9), -2);
        Run.due("NONE twice", run.terms.order(9, 9), -2);
    }

    private static void join() {
        Run.sentence("The SUM (0), PRODUCT (1) of two SLOTS' TERMS comes to a SLOT: NODES. BAD; NONE");
        Run run = Run.with("a", "b");
        Run.due("SUM", run.terms.join(1, 0, 0, 15), 3);
        Run.due("a+b", run.printed(15), "a+b");
        Run.due("PRODUCT", run.terms.join(15, 0, 1, 15), 5);
        Run.due("a*(a+b)", run.printed(15), "a*(a+b)");
        Run.due("a SLOT with itself, to itself", run.terms.join(0, 0, 1, 0), 3);
        Run.due("a*a", run.printed(0), "a*a");
        for (int symbol : new int[] {-1, 2, LEAST, MOST}) {
            Run.due("symbol " + symbol, run.terms.join(0, 1, symbol, 2), -1);
        }
        for (int slot : NO_SLOTS) {
            Run.due("first SLOT " + slot, run.terms.join(slot, 1, 0, 2), -1);
            Run.due("second SLOT " + slot, run.terms.join(0, slot, 0, 2), -1);
            Run.due("to SLOT " + slot, run.terms.join(0, 1, 0, slot), -1);
        }
        Run.due("first NONE", run.terms.join(9, 1, 0, 2), -2);
        Run.due("second NONE", run.terms.join(0, 9, 1, 2), -2);
        Run.due("nothing came", run.terms.told(2, 0), -2);
    }

    private static void joinFull() {
        Run.sentence("comes to a SLOT: NODES. BAD; NONE; FULL");
        Run run = Run.with("a+a+a+a+a+a+a+a", "c", "f(b)");
        Run.due("9 PARTS", run.terms.join(0, 1, 0, 2), -4);
        Run.due("the SLOT stays", run.printed(2), "f(b)");
        Run.due("9 PARTS to the SLOT itself", run.terms.join(0, 1, 0, 0), -4);
        Run.due("the SLOT stays", run.terms.told(0, 3), 9);
        Run.due("2 PARTS", run.terms.join(0, 1, 1, 0), 11);
    }

    private static void print() {
        Run.sentence("A TERM is PRINTED to THE OUT: how many bytes. BAD; NONE");
        Run run = Run.with("f(f(f(f(f(f(f(f(a))))))))", "x", "f(x)");
        for (int n = 9; n < 40; n++) {
            run.terms.match(1, 0);
            run.terms.instance(0, 2, 0);
        }
        Run.due("the longest of 40 NODES", run.terms.print(0), 39 * 3 + 1);
        Run.due("its first byte", run.terms.out(0), 'f');
        Run.due("its last byte", run.terms.out(39 * 3), ')');
        Run.due("no byte behind it", run.terms.out(39 * 3 + 1), -2);
        Run.due("the shortest", run.terms.print(1), 1);
        Run.due("nothing is left of the other", run.out(), "x");
        for (int slot : NO_SLOTS) {
            Run.due("SLOT " + slot, run.terms.print(slot), -1);
        }
        Run.due("NONE", run.terms.print(9), -2);
        Run.due("THE OUT stays", run.out(), "x");
    }

    private static void out() {
        Run.sentence("Byte i of THE OUT; NONE");
        Run run = Run.with("f(a)");
        Run.due("ahead of print", run.terms.out(0), -2);
        run.terms.print(0);
        Run.due("the first byte", run.terms.out(0), 'f');
        Run.due("the last byte", run.terms.out(3), ')');
        for (int i : new int[] {-1, 4, 255, 256, LEAST, MOST}) {
            Run.due("byte " + i, run.terms.out(i), -2);
        }
        run.read("b", 0);
        Run.due("it has what was printed, not the SLOT's TERM", run.out(), "f(a)");
    }
}
