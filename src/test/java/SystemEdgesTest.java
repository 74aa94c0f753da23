/** Each sentence of ==== 3 and of promises 13 to 16 that names a boundary case, with a test of its own. */
public final class SystemEdgesTest {
    private static final int LEAST = Integer.MIN_VALUE;
    private static final int MOST = Integer.MAX_VALUE;
    /** ROWS with just 100, and just 101, SOLUTIONS in THE BASIS for SPAN 16, found by Plain. */
    private static final int[] HUNDRED = {4, -3, 7, -3, -3};
    private static final int[] HUNDRED_ONE = {-7, 6, -7, -2, 6, 0};

    public static void main(String[] args) {
        rowsAndUnknowns();
        numbers();
        notAllZero();
        eachRow();
        span();
        noneBelow();
        inOrder();
        system();
        systemBad();
        number();
        numberBad();
        solveBad();
        full();
        solutionBad();
        Run.end();
    }

    private static AcTerms with(int[]... rows) {
        AcTerms terms = new AcTerms();
        terms.system(rows.length, rows[0].length);
        for (int r = 0; r < rows.length; r++) {
            for (int k = 0; k < rows[r].length; k++) {
                terms.number(r, k, rows[r][k]);
            }
        }
        return terms;
    }

    private static int[] row(int... numbers) {
        return numbers;
    }

    private static void basis(AcTerms terms, int span, int[]... due) {
        Run.due("solve(" + span + ")", terms.solve(span), due.length);
        for (int i = 0; i < due.length; i++) {
            for (int j = 0; j < due[i].length; j++) {
                Run.due("solution(" + i + ", " + j + ")", terms.solution(i, j), due[i][j]);
            }
        }
        Run.due("none behind the last", terms.solution(due.length, 0), -1);
    }

    // ---- ==== 3

    private static void rowsAndUnknowns() {
        Run.sentence("A SYSTEM has 1 to 3 ROWS of as many NUMBERS (-9 .. 9), one for each of its UNKNOWNS (1 to 6)");
        for (int rows = -1; rows <= 5; rows++) {
            for (int unknowns = -1; unknowns <= 8; unknowns++) {
                AcTerms terms = new AcTerms();
                boolean can = rows >= 1 && rows <= 3 && unknowns >= 1 && unknowns <= 6;
                Run.due("system(" + rows + ", " + unknowns + ")", terms.system(rows, unknowns), can ? 1 : -1);
                if (can) {
                    Run.due("the last NUMBER", terms.number(rows - 1, unknowns - 1, 5), 0);
                    Run.due("no ROW more", terms.number(rows, 0, 0), -1001);
                    Run.due("no UNKNOWN more", terms.number(0, unknowns, 0), -1001);
                    Run.due("the last NUMBER is its own", terms.number(rows - 1, unknowns - 1, 0), 5);
                }
            }
        }
    }

    private static void numbers() {
        Run.sentence("NUMBERS (-9 .. 9)");
        AcTerms terms = new AcTerms();
        int before = 0;
        for (int v = -9; v <= 9; v++) {
            Run.due("number " + v, terms.number(0, 0, v), before);
            before = v;
        }
        for (int v : new int[] {-10, 10, LEAST, MOST}) {
            Run.due("number " + v, terms.number(0, 0, v), -1001);
        }
        Run.due("it stays", terms.number(0, 0, 0), 9);
    }

    private static void notAllZero() {
        Run.sentence("A SOLUTION gives a number 0 or more to each UNKNOWN, not 0 to all");
        basis(with(row(1)), 16);
        basis(with(row(-9)), 16);
        basis(with(row(1, 1)), 16);
        basis(with(row(-1, -9, -1, -1, -1, -1)), 16);
        basis(with(row(0)), 1, row(1));
        basis(with(row(0)), 16, row(1));
        basis(with(row(5, 0)), 16, row(0, 1));
        basis(with(row(0, 0, 0, 0, 0, 0), row(0, 0, 0, 0, 0, 0), row(0, 0, 0, 0, 0, 0)), 1, row(0, 0, 0, 0, 0, 1),
                row(0, 0, 0, 0, 1, 0), row(0, 0, 0, 1, 0, 0), row(0, 0, 1, 0, 0, 0), row(0, 1, 0, 0, 0, 0),
                row(1, 0, 0, 0, 0, 0));
    }

    private static void eachRow() {
        Run.sentence("so that each ROW's NUMBERS times these are 0 together");
        int[] first = row(1, -1, 0, 0);
        int[] second = row(0, 1, -1, 0);
        basis(with(first), 16, row(0, 0, 0, 1), row(0, 0, 1, 0), row(1, 1, 0, 0));
        basis(with(first, second), 16, row(0, 0, 0, 1), row(1, 1, 1, 0));
        basis(with(first, second, row(0, 0, 1, -1)), 16, row(1, 1, 1, 1));
        basis(with(first, second, row(0, 0, 0, 1)), 16, row(1, 1, 1, 0));
        basis(with(first, second, row(1, 1, 1, 0)), 16, row(0, 0, 0, 1));
        basis(with(first, second, row(1, 1, 1, 1)), 16);
    }

    private static void span() {
        Run.sentence("THE BASIS for a SPAN (1 .. 16): all SOLUTIONS whose numbers are SPAN at most together");
        basis(with(row(9, -7)), 16, row(7, 9));
        basis(with(row(9, -7)), 15);
        basis(with(row(9, -8)), 16);
        basis(with(row(1, -1)), 2, row(1, 1));
        basis(with(row(1, -1)), 1);
        basis(with(row(0, 1, -9)), 9, row(1, 0, 0));
        basis(with(row(0, 1, -9)), 10, row(0, 9, 1), row(1, 0, 0));
        basis(with(row(1, 1, -1, -2)), 3, row(0, 1, 1, 0), row(0, 2, 0, 1), row(1, 0, 1, 0), row(1, 1, 0, 1),
                row(2, 0, 0, 1));
        basis(with(row(1, 1, -1, -2)), 2, row(0, 1, 1, 0), row(1, 0, 1, 0));
        for (int span = 1; span <= 16; span++) {
            Run.due("SPAN " + span, with(row(1, -9, 0), row(1, 0, -5)).solve(span), 0);
        }
    }

    private static void noneBelow() {
        Run.sentence("and below which there is no other one (no number greater, one less)");
        basis(with(row(2, -2)), 16, row(1, 1));
        basis(with(row(4, -6)), 16, row(3, 2));
        basis(with(row(1, -2, 1)), 16, row(0, 1, 2), row(1, 1, 1), row(2, 1, 0));
        basis(with(row(3, -1, -2)), 16, row(1, 1, 1), row(1, 3, 0), row(2, 0, 3));
    }

    private static void inOrder() {
        Run.sentence("in order of their first numbers, of like ones the second, and so on, the lesser first");
        basis(with(row(1, 1, 1, -3)), 16, row(0, 0, 3, 1), row(0, 1, 2, 1), row(0, 2, 1, 1), row(0, 3, 0, 1), row(1, 0, 2, 1),
                row(1, 1, 1, 1), row(1, 2, 0, 1), row(2, 0, 1, 1), row(2, 1, 0, 1), row(3, 0, 0, 1));
        basis(with(row(-1, 0, 1)), 16, row(0, 1, 0), row(1, 0, 1));
    }

    // ---- promises 13 and 14

    private static void system() {
        Run.sentence("The SYSTEM has so many ROWS (1 .. 3) and UNKNOWNS (1 .. 6), all NUMBERS 0; no BASIS: 1");
        AcTerms terms = new AcTerms();
        terms.system(3, 6);
        for (int n = 0; n < 18; n++) {
            Run.due("0 at first", terms.number(n / 6, n % 6, 9), 0);
        }
        Run.due("the same size again", terms.system(3, 6), 1);
        for (int n = 0; n < 18; n++) {
            Run.due("0 again", terms.number(n / 6, n % 6, -9), 0);
        }
        Run.due("smaller", terms.system(1, 1), 1);
        Run.due("its one NUMBER", terms.number(0, 0, 7), 0);
        Run.due("large again", terms.system(3, 6), 1);
        for (int n = 0; n < 18; n++) {
            Run.due("0 once again", terms.number(n / 6, n % 6, 0), 0);
        }
        Run.due("solve", terms.solve(1), 6);
        Run.due("a BASIS", terms.solution(5, 0), 1);
        Run.due("system", terms.system(3, 6), 1);
        Run.due("no BASIS", terms.solution(0, 5), -1);
    }

    private static void systemBad() {
        Run.sentence("all NUMBERS 0; no BASIS: 1. BAD");
        AcTerms terms = with(row(1, -2), row(2, -4));
        Run.due("solve", terms.solve(3), 1);
        int[][] bad = {{0, 1}, {4, 1}, {1, 0}, {1, 7}, {-1, -1}, {LEAST, 1}, {MOST, 1}, {1, LEAST}, {1, MOST}};
        for (int[] call : bad) {
            Run.due("system(" + call[0] + ", " + call[1] + ")", terms.system(call[0], call[1]), -1);
            Run.due("THE BASIS stays", terms.solution(0, 0), 2);
        }
        Run.due("the NUMBERS stay", terms.number(1, 1, 0), -4);
        Run.due("the ROWS stay", terms.number(2, 0, 0), -1001);
        Run.due("the UNKNOWNS stay", terms.number(0, 2, 0), -1001);
    }

    private static void number() {
        Run.sentence("A NUMBER of it; no BASIS: what it was (NUMBERS as they are)");
        AcTerms terms = new AcTerms();
        Run.due("solve", terms.solve(1), 1);
        Run.due("the same NUMBER", terms.number(0, 0, 0), 0);
        Run.due("no BASIS", terms.solution(0, 0), -1);
        Run.due("the least NUMBER", terms.number(0, 0, -9), 0);
        Run.due("what it was", terms.number(0, 0, -2), -9);
        Run.due("a NUMBER that looks like NONE", terms.number(0, 0, -1), -2);
        Run.due("a NUMBER that looks like BAD", terms.number(0, 0, 9), -1);
        Run.due("the greatest NUMBER", terms.number(0, 0, 0), 9);
        terms.system(2, 2);
        terms.number(0, 1, 3);
        Run.due("only that one changes", terms.number(1, 0, 4), 0);
        Run.due("only that one changes", terms.number(0, 1, 5), 3);
        Run.due("only that one changes", terms.number(0, 0, 1), 0);
        Run.due("only that one changes", terms.number(1, 1, 1), 0);
        Run.due("only that one changes", terms.number(1, 0, 1), 4);
    }

    private static void numberBad() {
        Run.sentence("BAD less 1000 (-1001)");
        AcTerms terms = with(row(1, -1, 2), row(2, -2, 4));
        Run.due("solve", terms.solve(2), 1);
        int[][] bad = {{-1, 0, 0}, {2, 0, 0}, {0, -1, 0}, {0, 3, 0}, {0, 0, 10}, {0, 0, -10}, {LEAST, 0, 0}, {MOST, 0, 0},
            {0, LEAST, 0}, {0, MOST, 0}, {0, 0, LEAST}, {0, 0, MOST}};
        for (int[] call : bad) {
            Run.due("number(" + call[0] + ", " + call[1] + ", " + call[2] + ")", terms.number(call[0], call[1], call[2]), -1001);
            Run.due("THE BASIS stays", terms.solution(0, 0), 1);
        }
        int[] due = {1, -1, 2, 2, -2, 4};
        for (int n = 0; n < 6; n++) {
            Run.due("the NUMBERS stay", terms.number(n / 3, n % 3, 0), due[n]);
        }
    }

    // ---- promises 15 and 16

    private static void solveBad() {
        Run.sentence("THE BASIS for a SPAN is found: how many SOLUTIONS. BAD");
        AcTerms terms = with(row(1, -1));
        for (int span : new int[] {0, -1, 17, LEAST, MOST}) {
            Run.due("SPAN " + span, terms.solve(span), -1);
            Run.due("no BASIS yet", terms.solution(0, 0), -1);
        }
        Run.due("the greatest SPAN", terms.solve(16), 1);
        for (int span : new int[] {0, -1, 17, LEAST, MOST}) {
            Run.due("SPAN " + span, terms.solve(span), -1);
            Run.due("THE BASIS stays", terms.solution(0, 1), 1);
        }
        Run.due("the least SPAN", terms.solve(1), 0);
        Run.due("THE BASIS of no SOLUTIONS", terms.solution(0, 0), -1);
        Run.due("another SPAN", terms.solve(2), 1);
        Run.due("the NUMBERS stay", terms.number(0, 1, 0), -1);
    }

    private static void full() {
        Run.sentence("FULL: more than 100 (there is none then)");
        AcTerms terms = with(HUNDRED);
        Run.due("100", terms.solve(16), 100);
        Run.due("the first one", terms.solution(0, 0) >= 0 ? 1 : 0, 1);
        Run.due("the last one", terms.solution(99, 4) >= 0 ? 1 : 0, 1);
        Run.due("no SOLUTION 100", terms.solution(100, 0), -1);
        terms = with(HUNDRED_ONE);
        int few = Plain.basis(new int[][] {HUNDRED_ONE}, row(3, 3, 3, 3, 3, 3), 3).size();
        Run.due("less for a lesser SPAN", terms.solve(3), few);
        Run.due("a BASIS", terms.solution(0, 5), 1);
        Run.due("101", terms.solve(16), -4);
        for (int i = 0; i <= 101; i++) {
            Run.due("no SOLUTION " + i, terms.solution(i, 0), -1);
        }
        Run.due("SPAN 17 is BAD, not FULL", terms.solve(17), -1);
        Run.due("the NUMBERS stay", terms.number(0, 0, -7), -7);
        Run.due("a BASIS again", terms.solve(1), 1);
        Run.due("its SOLUTION", terms.solution(0, 5), 1);
    }

    private static void solutionBad() {
        Run.sentence("Number j of SOLUTION i of THE BASIS. BAD");
        AcTerms terms = with(row(1, -1, 0));
        Run.due("no BASIS", terms.solution(0, 0), -1);
        Run.due("solve", terms.solve(16), 2);
        Run.due("the first", terms.solution(0, 0), 0);
        Run.due("the last", terms.solution(1, 1), 1);
        for (int n : new int[] {-1, LEAST, MOST}) {
            Run.due("SOLUTION " + n, terms.solution(n, 0), -1);
            Run.due("number " + n, terms.solution(0, n), -1);
        }
        Run.due("SOLUTION 2", terms.solution(2, 0), -1);
        Run.due("number 2 of 3", terms.solution(0, 2), 1);
        Run.due("number 3", terms.solution(0, 3), -1);
        terms.unify(0, 0, 0);
        Run.due("unify leaves THE BASIS", terms.solution(0, 2), 1);
    }
}
