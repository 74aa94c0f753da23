/** Each sentence of ==== 1 (TERMS, ORDER, TEXTS, PRINTED) that names a boundary case, with a test of its own. */
public final class TermEdgesTest {
    private static final String VARIABLES = "uvwxyzABCDEFGHIJKLMNOP";
    private static final String CONSTANTS = "abcde";
    private static final String FUNCTIONS = "fgh";
    /** What an ATOM can begin with. */
    private static final String BEGINS = VARIABLES + CONSTANTS + FUNCTIONS + "(";

    public static void main(String[] args) {
        variables();
        constants();
        functions();
        partsOfSums();
        severalTimes();
        fortyNodes();
        fortyNodesByPuts();
        eightParts("+", 0);
        eightParts("*", 1);
        eightPartsByPuts("+", 0);
        eightPartsByPuts("*", 1);
        wholeTerm();
        equal();
        orderOfLetters();
        orderOfFunctions();
        orderOfSums("+");
        orderOfSums("*");
        numberedParts();
        bytes();
        blanks();
        anyNumber();
        oneToThree();
        whatCanStand();
        theEnd();
        ninthOpen();
        thirdTerm();
        printedByNumbers();
        printed();
        Run.end();
    }

    private static int read(String text) {
        return new Run().read(text, 0);
    }

    private static void variables() {
        Run.sentence("VARIABLES 0 .. 21 are the letters u v w x y z, A .. P");
        letters(VARIABLES, 0);
        for (String other : new String[] {"t", "{", "@", "Q", "Z", "["}) {
            Run.due(other, read(other), -10);
        }
    }

    private static void constants() {
        Run.sentence("CONSTANTS 0 .. 4 a b c d e");
        letters(CONSTANTS, 1);
        for (String other : new String[] {"`", "i", "0"}) {
            Run.due(other, read(other), -10);
        }
    }

    private static void letters(String letters, int kind) {
        for (int number = 0; number < letters.length(); number++) {
            String letter = letters.substring(number, number + 1);
            Run run = Run.with(letter);
            Run.due("what " + letter + " is", run.terms.told(0, 0), kind);
            Run.due("the number of " + letter, run.terms.told(0, 1), number);
            Run.due("printed", run.printed(0), letter);
        }
    }

    private static void functions() {
        Run.sentence("FUNCTIONS 0 .. 2 f g h, of one to three PARTS, in their order");
        String[] inBrackets = {"(c)", "(c,b)", "(c,b,a)"};
        for (int number = 0; number < 3; number++) {
            for (int parts = 1; parts <= 3; parts++) {
                String text = FUNCTIONS.charAt(number) + inBrackets[parts - 1];
                Run run = Run.with(text);
                Run.due("what " + text + " is", run.terms.told(0, 0), 2);
                Run.due("the number of " + text, run.terms.told(0, 1), number);
                Run.due("PARTS of " + text, run.terms.told(0, 2), parts);
                Run.due("printed", run.printed(0), text);
                for (int i = 0; i < parts; i++) {
                    run.terms.part(0, i, 1);
                    Run.due("PART " + i + " of " + text, run.terms.told(1, 1), 2 - i);
                }
                Run.due("no PART behind them", run.terms.part(0, parts, 1), -1);
            }
        }
        Run.due("no PARTS", read("f()"), -12);
        Run.due("four PARTS", read("f(a,b,c,d)"), -17);
        Run.due("no FUNCTION behind h", read("i(a)"), -10);
    }

    private static void partsOfSums() {
        Run.sentence("A SUM has two PARTS or more, none of them a SUM, a PRODUCT likewise, none a PRODUCT");
        told("(a)", 1, 0);
        told("((f(a)))", 2, 1);
        told("a+b", 3, 2);
        told("a*b", 4, 2);
        told("((a+b))", 3, 2);
        told("(a+b)+c", 3, 3);
        told("a+(b+(c+(d+e)))", 3, 5);
        told("(a*b)*(c*d)", 4, 4);
        told("(a*b)+(c*d)", 3, 2);
        told("(a+b)*(c+d)", 4, 2);
        Run run = Run.with("a+b", "c");
        Run.due("join of a SUM and a TERM", run.terms.join(0, 1, 0, 2), 4);
        Run.due("its PARTS", run.terms.told(2, 2), 3);
        Run.due("join of a TERM and a SUM", run.terms.join(1, 0, 0, 2), 4);
        Run.due("the least SUM", run.terms.join(1, 1, 0, 2), 3);
        Run.due("its PARTS", run.terms.told(2, 2), 2);
    }

    private static void told(String text, int kind, int parts) {
        Run run = Run.with(text);
        Run.due("what " + text + " is", run.terms.told(0, 0), kind);
        Run.due("PARTS of " + text, run.terms.told(0, 2), parts);
    }

    private static void severalTimes() {
        Run.sentence("their PARTS have no order, one may stand there several times");
        told("a+a", 3, 2);
        told("a*a*a*a*a*a*a*a", 4, 8);
        told("(a+b)*(b+a)", 4, 2);
        compared("b+a+b", "b+b+a", 0);
        compared("a+a+b", "a+b+b", 1);
    }

    private static void compared(String first, String second, int due) {
        Run run = Run.with(first, second);
        Run.due(first + " to " + second, run.terms.order(0, 1), due);
        Run.due(second + " to " + first, run.terms.order(1, 0), due == 0 ? 0 : 3 - due);
    }

    private static void fortyNodes() {
        Run.sentence("NODES of a TERM: itself, and those of its PARTS: 40 at most");
        String seven = "a*a*a*a+".repeat(7);
        Run.due("one NODE", read("a"), 1);
        Run.due("read, 40 NODES", read(seven + "a*a*a"), 40);
        Run.due("read, 41 NODES", read(seven + "a*a*a*a"), -4);
        String eight = "a*a*a*a*a*a*a*a";
        Run run = Run.with(eight + "+" + eight + "+" + eight + "+" + eight, "u");
        for (int nodes = 38; nodes <= 40; nodes++) {
            Run.due("join, a PART more", run.terms.join(0, 1, 0, 0), nodes);
        }
        Run.due("join, 41 NODES of 8 PARTS", run.terms.join(0, 1, 0, 2), -4);
        run = Run.with("f(a*a+a*a+a*a+a*a+a+f(a))", "f(a*a+a*a+a*a+a*a+a+f(f(a)))", "f(f(f(a)))");
        Run.due("17, 17 and a PRODUCT's own NODE", run.terms.join(0, 0, 1, 3), 35);
        Run.due("17, 18 and a PRODUCT's own NODE", run.terms.join(0, 1, 1, 4), 36);
        Run.due("35, 4 and a SUM's own NODE", run.terms.join(3, 2, 0, 5), 40);
        Run.due("36, 4 and a SUM's own NODE", run.terms.join(4, 2, 0, 5), -4);
        Run.due("35, 36 and a SUM's own NODE", run.terms.join(3, 4, 0, 5), -4);
    }

    private static void fortyNodesByPuts() {
        String seven = "x+x+x+x+x+x+x+";
        Run run = Run.with("x", "a*a*a*a", seven + "a*a*a", seven + "a*a*a*a", "x+x+x+x+x+x+x", "f(f(f(f(f(x)))))");
        Run.due("match", run.terms.match(0, 1), 1);
        Run.due("instance, 40 NODES", run.terms.instance(0, 2, 6), 40);
        Run.due("instance, 41 NODES", run.terms.instance(0, 3, 7), -4);
        Run.due("unify", run.terms.unify(0, 1, 0), 1);
        Run.due("unified, 40 NODES", run.terms.unified(0, 2, 6), 40);
        Run.due("unified, 41 NODES", run.terms.unified(0, 3, 7), -4);
        Run.due("36 NODES", run.terms.instance(0, 4, 8), 36);
        Run.due("match", run.terms.match(0, 8), 1);
        Run.due("FUNCTIONS, 41 NODES", run.terms.instance(0, 5, 9), -4);
        run.read("f(f(f(f(x))))", 5);
        Run.due("FUNCTIONS, 40 NODES", run.terms.instance(0, 5, 9), 40);
    }

    private static void eightParts(String sign, int symbol) {
        Run.sentence("a SUM, PRODUCT has 8 PARTS at most");
        String four = "a" + (sign + "a").repeat(3);
        Run.due("read, 8 PARTS", read(four + sign + four), 9);
        Run.due("read, 9 PARTS", read(four + sign + four + sign + "a"), -4);
        Run.due("read, 8 PARTS by brackets", read("(" + four + ")" + sign + "(" + four + ")"), 9);
        Run.due("read, 9 PARTS by brackets", read("(" + four + ")" + sign + "(" + four + sign + "a)"), -4);
        Run run = Run.with(four, four + sign + "a", "b");
        Run.due("join, 8 PARTS", run.terms.join(0, 0, symbol, 3), 9);
        Run.due("join, 9 PARTS", run.terms.join(0, 1, symbol, 4), -4);
        Run.due("join, 10 PARTS", run.terms.join(1, 1, symbol, 4), -4);
        Run.due("join, 8 PARTS and one", run.terms.join(3, 2, symbol, 4), -4);
        Run.due("join, one and 8 PARTS", run.terms.join(2, 3, symbol, 4), -4);
        Run.due("join, 16 PARTS", run.terms.join(3, 3, symbol, 4), -4);
        Run.due("join by the other SYMBOL: 2 PARTS", run.terms.join(3, 3, 1 - symbol, 4), 19);
    }

    private static void eightPartsByPuts(String sign, int symbol) {
        String four = "a" + sign + "b" + sign + "c" + sign + "d";
        Run run = Run.with("x", four, "x" + sign + "x", "x" + sign + "x" + sign + "u", "f(x" + sign + "x" + sign + "x)");
        Run.due("match", run.terms.match(0, 1), 1);
        Run.due("instance, 8 PARTS", run.terms.instance(0, 2, 5), 9);
        Run.due("instance, 9 PARTS", run.terms.instance(0, 3, 5), -4);
        Run.due("instance, 12 PARTS", run.terms.instance(0, 4, 5), -4);
        Run.due("unify", run.terms.unify(0, 1, symbol), 1);
        Run.due("unified, 8 PARTS", run.terms.unified(0, 2, 5), 9);
        Run.due("unified, 9 PARTS", run.terms.unified(0, 3, 5), -4);
        Run.due("unified, 12 PARTS", run.terms.unified(0, 4, 5), -4);
    }

    private static void wholeTerm() {
        Run.sentence("FULL, what would have more; asked of the whole TERM when it is made");
        String nine = "a+a+a+a+a+a+a+a+a";
        Run.due("9 PARTS deep inside", read("f(g(b,c*(" + nine + ")))"), -4);
        Run.due("9 PARTS in brackets of brackets", read("((a+a+a+a)+((a+a)+a))+(a+a)"), -4);
        Run.due("8 PARTS in brackets of brackets", read("((a+a+a+a)+((a+a)+a))+(a)"), 9);
        Run.due("two SUMS of 8 PARTS", read("(a+a+a+a+a+a+a+a)*(b+b+b+b+b+b+b+b)"), 19);
        Run.due("a FAULT behind the ninth PART", read(nine + ","), -27);
        Run.due("a FAULT behind the 41st NODE", read("a*a*a*a+".repeat(7) + "a*a*a*aa"), -73);
        Run run = Run.with("u+u+u+u+u+u+u+u", "w+w+w+w+w+w+w+v", "v", "w+x", "u");
        int found = run.terms.unify(0, 1, 0);
        boolean seen = false;
        for (int i = 0; i < found && !seen; i++) {
            seen = run.terms.unified(i, 2, 5) == -4 && run.terms.unified(i, 4, 6) > 0 && run.terms.unified(i, 3, 7) > 0;
        }
        Run.due("too much for a VARIABLE that the TERM has not", seen ? 1 : 0, 1);
    }

    private static void equal() {
        Run.sentence("Two TERMS are EQUAL if they differ by the order of PARTS of SUMS and PRODUCTS alone");
        compared("f(c*(b+a),d)", "f((a+b)*c,d)", 0);
        compared("a+b*(c+d*e)", "(e*d+c)*b+a", 0);
        compared("f(a,b)", "f(b,a)", 1);
        compared("a+b", "a*b", 1);
        compared("f(a)", "f(a,a)", 1);
        compared("a+a", "a+a+a", 1);
        compared("x", "y", 1);
        compared("f(f(a+b))", "f(f(b+a))", 0);
    }

    private static void orderOfLetters() {
        Run.sentence("ORDER: VARIABLES, CONSTANTS (each by numbers)");
        String all = VARIABLES + CONSTANTS;
        for (int i = 1; i < all.length(); i++) {
            compared(all.substring(i - 1, i), all.substring(i, i + 1), 1);
        }
        compared("u", "e", 1);
    }

    private static void orderOfFunctions() {
        Run.sentence("FUNCTIONS (by numbers, then by how many PARTS, fewer first, then by the first PARTS that are not EQUAL)");
        compared("e", "f(u)", 1);
        compared("P", "f(u)", 1);
        compared("f(a*b,a*b,a*b)", "g(u)", 1);
        compared("g(a*b,a*b,a*b)", "h(u)", 1);
        compared("f(a*b)", "f(u,u)", 1);
        compared("f(a*b,a*b)", "f(u,u,u)", 1);
        compared("f(a,c,c)", "f(b,a,a)", 1);
        compared("f(a,a,c)", "f(a,b,a)", 1);
        compared("f(a,a,a)", "f(a,a,b)", 1);
        compared("f(a+b,a)", "f(b+a,b)", 1);
    }

    /** Of SUMS, or of PRODUCTS where the sign is theirs. */
    private static void orderOfSums(String sign) {
        Run.sentence("SUMS, PRODUCTS (each by how many PARTS, fewer first, then by the least PARTS, "
                + "the second least ones, ..: the first that are not EQUAL)");
        compared("h(a,b,c)", "u" + sign + "u", 1);
        compared("e+e+e+e+e+e+e+e", "u*u", 1);
        compared(inSign("ee", sign), inSign("uuu", sign), 1);
        compared(inSign("eeeeeee", sign), inSign("uuuuuuuu", sign), 1);
        compared(inSign("ea", sign), inSign("bb", sign), 1);
        compared(inSign("aeb", sign), inSign("cca", sign), 1);
        compared(inSign("abcdeabc", sign), inSign("dabcdeab", sign), 1);
        compared(inSign("aaaaaaab", sign), inSign("caaaaaaa", sign), 1);
    }

    private static String inSign(String letters, String sign) {
        return String.join(sign, letters.split(""));
    }

    private static void numberedParts() {
        Run.sentence("PARTS of a SUM, PRODUCT are numbered by ORDER, from 0 on");
        String[] sum = {"u", "P", "a", "e", "f(a)", "f(a,a)", "h(u)", "a*b"};
        String[] product = {"u", "P", "a", "a", "f(a)", "g(u)", "a+b", "a+b+c"};
        numbered("a*b+h(u)+f(a,a)+P+e+f(a)+a+u", sum);
        numbered("(a+c+b)*a*(b+a)*g(u)*u*f(a)*P*a", product);
    }

    private static void numbered(String text, String[] parts) {
        Run run = Run.with(text);
        for (int i = 0; i < parts.length; i++) {
            run.terms.part(0, i, 1);
            Run.due("PART " + i + " of " + text, run.printed(1), parts[i]);
        }
        Run.due("PART -1", run.terms.part(0, -1, 1), -1);
        Run.due("PART 8", run.terms.part(0, 8, 1), -1);
    }

    private static void bytes() {
        Run.sentence("TEXTS of bytes 32 .. 126, 64 at most");
        for (int b = 0; b < 256; b++) {
            Run.due("type of byte " + b, new AcTerms().type(b, 1), b < 32 || b > 126 ? -1 : 1);
        }
        Run run = new Run();
        for (int length = 1; length <= 64; length++) {
            Run.due("byte by byte", run.terms.type('a', 1), length);
        }
        Run.due("byte 65", run.terms.type('a', 1), -4);
    }

    private static void blanks() {
        Run.sentence("bytes 32 count for nothing");
        Run run = Run.with("f(a,(b+c)*d)+e", "   f  (  a  ,  (  b  +  c  )  *  d  )  +  e   ");
        Run.due("EQUAL", run.terms.order(0, 1), 0);
        Run.due("only one other byte, the last", read(" ".repeat(63) + "a"), 1);
        Run.due("only one other byte, the first", read("a" + " ".repeat(63)), 1);
        Run.due("they are no sign between two", read("a  b"), -13);
        Run.due("nothing else", read(" ".repeat(5)), -15);
    }

    private static void anyNumber() {
        Run.sentence("TERM: P, and any number of + P");
        Run.due("none", read("a*b"), 3);
        Run.due("31 of them: too many PARTS, but no FAULT", read("a+".repeat(31) + "a"), -4);
        Run.sentence("P: ATOM, and any number of * ATOM");
        Run.due("none", read("a"), 1);
        Run.due("31 of them: too many PARTS, but no FAULT", read("a*".repeat(31) + "a"), -4);
    }

    private static void oneToThree() {
        Run.sentence("ATOM: a VARIABLE, a CONSTANT, a FUNCTION ( TERM ) with one to three TERMS and a , between two, "
                + "or ( TERM )");
        for (char c = 33; c <= 126; c++) {
            boolean letter = c >= 'A' && c <= 'P' || c >= 'a' && c <= 'e' || c >= 'u' && c <= 'z';
            boolean opens = c >= 'f' && c <= 'h' || c == '(';
            Run.due(c + " alone", read(String.valueOf(c)), letter ? 1 : opens ? -11 : -10);
        }
        Run.due("no TERM", read("h()"), -12);
        Run.due("one", read("h(a+b)"), 4);
        Run.due("two", read("h(a+b,c*d)"), 7);
        Run.due("three", read("h(a+b,c*d,e)"), 8);
        Run.due("a fourth", read("h(a+b,c*d,e,a)"), -21);
        Run.due("nothing between two ,", read("h(a,,b)"), -14);
        Run.due("a , ahead of the first", read("h(,a)"), -12);
        Run.due("a , behind the last", read("h(a,)"), -14);
        Run.due("no , between two", read("h(a b)"), -14);
        Run.due("no TERM in ( )", read("()"), -11);
        Run.due("two TERMS in ( )", read("(a,b)"), -12);
    }

    private static void whatCanStand() {
        Run.sentence("FAULTS are -10 less the place of the first byte (behind the blanks) that can't stand there");
        for (String ahead : new String[] {"", "a+", "a*", "(", "f(", "f(a,", "f(a,b,", "(((((((", "f(a,b,(((((("}) {
            canStand(ahead, BEGINS);
        }
        for (String ahead : new String[] {"((((((((", "f(f(f(f(f(f(f(f(", "((((((((a+", "((((((((a*", "(((((((f(a,"}) {
            canStand(ahead, BEGINS.replace("(", ""));
        }
        for (String ahead : new String[] {"f", "a+g", "(h", "f(f", "(((((((f"}) {
            canStand(ahead, "(");
        }
        canStand("((((((((f", "");
        for (String ahead : new String[] {"a", "x", "f(a)", "(a)", "a+b", "a*b", "((((((((a))))))))"}) {
            canStand(ahead, "+*");
        }
        for (String ahead : new String[] {"(a", "((a)", "(f(a,b)", "f(a,b,c", "f(a,b,g(c)", "f(a,b,c+d", "f((a", "f(a,(b"}) {
            canStand(ahead, "+*)");
        }
        for (String ahead : new String[] {"f(a", "f(a,b", "f(a+b", "f((a)", "f(a,g(a,b,c)", "f(a,b,g(c", "(f(a"}) {
            canStand(ahead, "+*),");
        }
    }

    private static void canStand(String ahead, String can) {
        for (char c = 33; c < 127; c++) {
            for (int blanks = 0; blanks < 3; blanks += 2) {
                String text = ahead + " ".repeat(blanks) + c;
                int answer = read(text);
                boolean here = answer == -10 - text.length() + 1;
                Run.due("\"" + text + "\": a FAULT at its last byte", here ? 1 : 0, can.indexOf(c) < 0 ? 1 : 0);
                boolean atEnd = answer == -10 - text.length();
                Run.due("\"" + text + "\": no other FAULT but at the end", here || atEnd || answer > 0 ? 1 : 0, 1);
            }
        }
        Run.due("the first of two", read(ahead + "~~"), -10 - ahead.length());
    }

    private static void theEnd() {
        Run.sentence("the end: how many bytes there are");
        Run.due("no bytes", read(""), -10);
        Run.due("one blank", read(" "), -11);
        Run.due("64 blanks", read(" ".repeat(64)), -74);
        Run.due("a+", read("a+"), -12);
        Run.due("blanks at the end count", read("a+  "), -14);
        Run.due("an open (", read("(a"), -12);
        Run.due("an open ( and a blank", read("(a "), -13);
        Run.due("a FUNCTION", read("f"), -11);
        Run.due("64 bytes, then the end", read("a+".repeat(32)), -74);
        Run.due("63 bytes, then the end", read("a*".repeat(31) + "("), -73);
        Run.due("the last of 64 bytes", read("a+".repeat(31) + "a)"), -73);
    }

    private static void ninthOpen() {
        Run.sentence("a ( that would be the ninth open at once can't stand");
        Run.due("8 open", read("((((((((a))))))))"), 1);
        Run.due("9 open", read("(((((((((a)))))))))"), -18);
        Run.due("8 of FUNCTIONS", read("f(g(h(f(g(h(f(g(a))))))))"), 9);
        Run.due("9 of FUNCTIONS", read("f(g(h(f(g(h(f(g(h(a)))))))))"), -27);
        Run.due("8 of both", read("f((g((h((f((a))))))))"), 5);
        Run.due("9 of both", read("f((g((h((f((g(a)))))))))"), -23);
        Run.due("8 in a second PART", read("f(a,(((((((a))))))))"), 3);
        Run.due("9 in a second PART", read("f(a,((((((((a)))))))))"), -21);
        Run.due("closed ones are open no more", read("(a)+(a)+(a)*(a)*(a)+(a)+(a)+(a)*((a))*((((((((a))))))))"), 13);
        Run.due("8 twice", read("((((((((a))))))))*((((((((b))))))))"), 3);
        Run.due("9 behind closed ones", read("((((((((a))))))))*(((((((((b)))))))))"), -36);
        Run run = new Run();
        Run.due("8 that are never closed", run.read("((((((((", 0), -18);
        Run.due("8 in the next TEXT", run.read("((((((((a))))))))", 0), 1);
    }

    private static void thirdTerm() {
        Run.sentence("nor a , behind a third TERM");
        Run.due("the first one's", read("f(a,b,c,d)"), -17);
        Run.due("at the end", read("f(a,b,c,"), -17);
        Run.due("behind a blank", read("f(a,b,c ,d)"), -18);
        Run.due("each FUNCTION has three of its own", read("f(f(a,b,c),f(a,b,c),f(a,b,c))"), 13);
        Run.due("an inner one's", read("f(f(a,b,c,d))"), -19);
        Run.due("behind an inner one", read("f(a,b,f(a,b,c),d)"), -24);
    }

    private static void printedByNumbers() {
        Run.sentence("PRINTED is a TERM so: letters, FUNCTIONS as f(..,..), "
                + "PARTS of SUMS and PRODUCTS by numbers with + or * between");
        prints("h(c)", "h(c)");
        prints("g(c,b)", "g(c,b)");
        prints("f(c,b,a)", "f(c,b,a)");
        prints("b+a", "a+b");
        prints("e*d*c*b*a*P*A*u", "u*A*P*a*b*c*d*e");
        prints("a*a+h(a)+f(b,a)+f(c)+a+P+u", "u+P+a+f(c)+f(b,a)+h(a)+a*a");
        prints("f(b+a,b*a)", "f(a+b,a*b)");
    }

    private static void printed() {
        Run.sentence("SUMS in PRODUCTS and PRODUCTS' PARTS that are SUMS in ( ), else no ( ), no blanks");
        prints("( (a) + (b) )", "a+b");
        prints("(a + b) * c", "c*(a+b)");
        prints("(a * b) + c", "c+a*b");
        prints("(a+b)*(a+b)*(c*(a+b+c))", "c*(a+b)*(a+b)*(a+b+c)");
        prints("f((a+b), (a*b), (c))", "f(a+b,a*b,c)");
        prints("f((a+b)*(c))*((g((x))))", "f(c*(a+b))*g(x)");
        prints("a*(b+c*(d+e*(a+b)))", "a*(b+c*(d+e*(a+b)))");
        prints("P", "P");
    }

    private static void prints(String text, String due) {
        Run run = Run.with(text);
        Run.due("print of " + text, run.printed(0), due);
    }
}
