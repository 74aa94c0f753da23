/** Promises 13 to 16: system, number, solve, solution. */
public final class SystemsTest {
    /** ROWS with just 100 and just 101 least SOLUTIONS for SPAN 16, found by Plain. */
    private static final int[][] HUNDRED = {{4, -3, 7, -3, -3}, {-7, 6, -7, -2, 6, 0}};

    public static void main(String[] args) {
        system();
        number();
        solve();
        full();
        noBasis();
        solution();
        Run.end();
    }

    /** A new object whose SYSTEM has these ROWS. */
    private static AcTerms with(int[]... rows) {
        AcTerms terms = new AcTerms();
        Run.due("system", terms.system(rows.length, rows[0].length), 1);
        for (int r = 0; r < rows.length; r++) {
            for (int k = 0; k < rows[r].length; k++) {
                Run.due("number", terms.number(r, k, rows[r][k]), 0);
            }
        }
        return terms;
    }

    private static void basis(AcTerms terms, int span, int[]... due) {
        Run.due("solve(" + span + ")", terms.solve(span), due.length);
        for (int i = 0; i < due.length; i++) {
            for (int j = 0; j < due[i].length; j++) {
                Run.due("solution(" + i + ", " + j + ")", terms.solution(i, j), due[i][j]);
            }
            Run.due("no number behind the last", terms.solution(i, due[i].length), -1);
        }
        Run.due("no SOLUTION behind the last", terms.solution(due.length, 0), -1);
    }

    private static void system() {
        AcTerms terms = new AcTerms();
        Run.due("0 ROWS", terms.system(0, 1), -1);
        Run.due("4 ROWS", terms.system(4, 1), -1);
        Run.due("0 UNKNOWNS", terms.system(1, 0), -1);
        Run.due("7 UNKNOWNS", terms.system(1, 7), -1);
        Run.due("3 ROWS of 6", terms.system(3, 6), 1);
        Run.due("the last NUMBER", terms.number(2, 5, 9), 0);
        Run.due("it is there", terms.number(2, 5, 9), 9);
        Run.due("BAD changes nothing", terms.system(3, 7), -1);
        Run.due("it is still there", terms.number(2, 5, -9), 9);
        Run.due("anew", terms.system(3, 6), 1);
        Run.due("all NUMBERS are 0", terms.number(2, 5, 1), 0);
        Run.due("fewer", terms.system(1, 2), 1);
        Run.due("more again", terms.system(3, 6), 1);
        Run.due("0 again", terms.number(2, 5, 1), 0);
    }

    private static void number() {
        AcTerms terms = new AcTerms();
        terms.system(2, 3);
        Run.due("what it was", terms.number(1, 2, -9), 0);
        Run.due("what it was", terms.number(1, 2, 9), -9);
        Run.due("what it was", terms.number(1, 2, 0), 9);
        Run.due("ROW -1", terms.number(-1, 0, 0), -1001);
        Run.due("ROW 2", terms.number(2, 0, 0), -1001);
        Run.due("UNKNOWN -1", terms.number(0, -1, 0), -1001);
        Run.due("UNKNOWN 3", terms.number(0, 3, 0), -1001);
        Run.due("10", terms.number(1, 2, 10), -1001);
        Run.due("-10", terms.number(1, 2, -10), -1001);
        Run.due("BAD changes nothing", terms.number(1, 2, 0), 0);
    }

    private static void solve() {
        AcTerms terms = new AcTerms();
        basis(terms, 1, new int[] {1});
        terms.number(0, 0, 3);
        basis(terms, 16);
        basis(with(new int[] {1, 1, -1, -2}), 6, new int[] {0, 1, 1, 0}, new int[] {0, 2, 0, 1}, new int[] {1, 0, 1, 0},
                new int[] {1, 1, 0, 1}, new int[] {2, 0, 0, 1});
        basis(with(new int[] {1, 1, -1, -2}), 2, new int[] {0, 1, 1, 0}, new int[] {1, 0, 1, 0});
        basis(with(new int[] {9, -7}), 15);
        basis(with(new int[] {9, -7}), 16, new int[] {7, 9});
        basis(with(new int[] {0, 2, -2, 0}), 16, new int[] {0, 0, 0, 1}, new int[] {0, 1, 1, 0}, new int[] {1, 0, 0, 0});
        basis(with(new int[] {1, -1, 0}, new int[] {0, 1, -1}), 3, new int[] {1, 1, 1});
        basis(with(new int[] {1, -1, 0}, new int[] {0, 1, -1}), 2);
        basis(with(new int[] {1, -1, 0}, new int[] {0, 1, -1}, new int[] {1, 1, 1}), 16);
        basis(with(new int[] {2, -1, 0, 0}, new int[] {0, 1, -2, 0}, new int[] {0, 0, 1, -1}), 5, new int[] {1, 2, 1, 1});
        AcTerms zero = new AcTerms();
        zero.system(3, 6);
        Run.due("all 0: each UNKNOWN alone", zero.solve(16), 6);
        Run.due("the last UNKNOWN first", zero.solution(0, 5), 1);
        Run.due("SPAN 0", zero.solve(0), -1);
        Run.due("SPAN 17", zero.solve(17), -1);
        Run.due("BAD leaves THE BASIS", zero.solution(5, 0), 1);
    }

    private static void full() {
        AcTerms terms = with(new int[] {-1, 1, 1, 1, 1, -9});
        Run.due("a BASIS first", terms.solve(2), 4);
        Run.due("more than 100", terms.solve(16), -4);
        Run.due("there is none then", terms.solution(0, 0), -1);
        Run.due("a BASIS again", terms.solve(2), 4);
        // 4 UNKNOWNS of 1 make 6 in 84 ways, 8 in 165; 5 of them make 4 in 70
        Run.due("84", with(new int[] {1, 1, 1, 1, -6}).solve(16), 84);
        Run.due("165", with(new int[] {1, 1, 1, 1, -8}).solve(16), -4);
        Run.due("just 100", with(HUNDRED[0]).solve(16), 100);
        Run.due("just 101", with(HUNDRED[1]).solve(16), -4);
    }

    private static void noBasis() {
        AcTerms terms = new AcTerms();
        Run.due("no BASIS at first", terms.solution(0, 0), -1);
        terms.solve(1);
        Run.due("a BASIS", terms.solution(0, 0), 1);
        terms.number(0, 0, 10);
        Run.due("a NUMBER that is BAD leaves it", terms.solution(0, 0), 1);
        terms.number(0, 0, 0);
        Run.due("a NUMBER, even the same one, ends it", terms.solution(0, 0), -1);
        terms.solve(1);
        terms.system(0, 0);
        Run.due("a SYSTEM that is BAD leaves it", terms.solution(0, 0), 1);
        terms.system(1, 1);
        Run.due("a SYSTEM ends it", terms.solution(0, 0), -1);
        terms.solve(1);
        terms.read(0);
        terms.unify(0, 0, 0);
        Run.due("other calls leave it", terms.solution(0, 0), 1);
    }

    private static void solution() {
        AcTerms terms = with(new int[] {1, -1});
        terms.solve(2);
        Run.due("SOLUTION 0", terms.solution(0, 0), 1);
        Run.due("SOLUTION -1", terms.solution(-1, 0), -1);
        Run.due("SOLUTION 1", terms.solution(1, 0), -1);
        Run.due("number -1", terms.solution(0, -1), -1);
        Run.due("number 2", terms.solution(0, 2), -1);
    }
}
