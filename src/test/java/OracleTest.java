import java.util.ArrayList;
import java.util.Arrays;
import java.util.List;
import java.util.Map;
import java.util.Random;
import java.util.TreeMap;

/** The answers to many small inputs, made from a fixed seed, against those of Plain. */
public final class OracleTest {
    private static final Random RANDOM = new Random(20261116);

    public static void main(String[] args) {
        int rounds = args.length > 0 ? Integer.parseInt(args[0]) : 400;
        for (int i = 0; i < rounds; i++) {
            texts();
            joins();
            matching();
            systems();
            unifying();
        }
        Run.end();
    }

    // ---- what is tried

    private static int upTo(int most) {
        return RANDOM.nextInt(most + 1);
    }

    private static String letter(String variables) {
        String letters = variables + "abc";
        return String.valueOf(letters.charAt(RANDOM.nextInt(letters.length())));
    }

    private static String term(int depth, String variables) {
        int kind = depth == 0 ? 0 : upTo(5);
        if (kind <= 1) {
            return letter(variables);
        }
        List<String> parts = new ArrayList<>();
        int more = kind == 2 ? upTo(2) : 1 + upTo(2);
        for (int i = 0; i <= more; i++) {
            parts.add(term(depth - 1, variables));
        }
        if (kind == 2) {
            return "fgh".charAt(upTo(2)) + "(" + String.join(",", parts) + ")";
        }
        return "(" + String.join(kind == 3 ? "+" : "*", parts) + ")";
    }

    private static String shortTerm(int depth, String variables, int most) {
        String text = term(depth, variables);
        while (text.length() > 64 || Plain.fault(text) >= 0 || Plain.read(text).isFull()
                || Plain.read(text).nodes() > most) {
            text = term(depth, variables);
        }
        return text;
    }

    private static String spoilt(String text) {
        StringBuilder made = new StringBuilder(text);
        String bytes = " ()+*,axfQ~";
        for (int n = upTo(3); n > 0; n--) {
            char c = bytes.charAt(RANDOM.nextInt(bytes.length()));
            int at = upTo(made.length());
            if (upTo(1) == 0 || at == made.length()) {
                made.insert(at, c);
            } else if (upTo(1) == 0) {
                made.setCharAt(at, c);
            } else {
                made.deleteCharAt(at);
            }
        }
        return made.substring(0, Math.min(64, made.length()));
    }

    // ---- against what is due

    private static void texts() {
        String text = spoilt(term(upTo(6), "xyzP"));
        Run run = new Run();
        int fault = Plain.fault(text);
        Plain plain = fault >= 0 ? null : Plain.read(text);
        int due = fault >= 0 ? -10 - fault : plain.isFull() ? -4 : plain.nodes();
        Run.due("read of \"" + text + "\"", run.read(text, 3), due);
        if (due > 0) {
            Run.due("print of " + text, run.printed(3), plain.toString());
            int[] told = {plain.kind, plain.number, plain.parts.size(), plain.nodes(), plain.variables().size()};
            for (int what = 0; what < told.length; what++) {
                Run.due("told " + what + " of " + text, run.terms.told(3, what), told[what]);
            }
            for (int i = 0; i < plain.parts.size(); i++) {
                Run.due("part of " + text, run.terms.part(3, i, 4), plain.parts.get(i).nodes());
                Run.due("part " + i + " of " + text, run.printed(4), plain.parts.get(i).toString());
            }
        }
    }

    private static void joins() {
        Run run = new Run();
        String[] texts = new String[16];
        Plain[] plain = new Plain[16];
        for (int i = 0; i < 4; i++) {
            texts[i] = shortTerm(upTo(3), "xyA", 12);
            plain[i] = Plain.read(texts[i]);
            Run.due("read of " + texts[i], run.read(texts[i], i), plain[i].nodes());
        }
        for (int n = 0; n < 20; n++) {
            int s = upTo(3);
            int t = upTo(3);
            int to = upTo(3);
            int symbol = upTo(1);
            Plain joined = Plain.of(3 + symbol, 0, List.of(plain[s], plain[t]));
            String call = "join of " + plain[s] + " and " + plain[t] + " by " + symbol;
            Run.due(call, run.terms.join(s, t, symbol, to), joined.isFull() ? -4 : joined.nodes());
            plain[to] = joined.isFull() ? plain[to] : joined;
            Run.due(call, run.printed(to), plain[to].toString());
            int compared = plain[s].compareTo(plain[t]);
            Run.due("order", run.terms.order(s, t), compared == 0 ? 0 : compared < 0 ? 1 : 2);
        }
    }

    private static void matching() {
        String variables = "vxzP".substring(0, 1 + upTo(2));
        String pattern = shortTerm(1 + upTo(2), variables, 12);
        Plain plain = Plain.read(pattern);
        Plain term = Plain.read(shortTerm(3, "", 9));
        for (int tries = 0; upTo(9) > 0 && tries < 20; tries++) {
            Map<Integer, Plain> puts = new TreeMap<>();
            for (int variable : plain.variables()) {
                puts.put(variable, Plain.read(term(upTo(1), "")));
            }
            Plain put = plain.with(puts);
            if (put.nodes() <= 10 && !put.isFull()) {
                term = put;
                break;
            }
        }
        Run run = new Run();
        run.read(pattern, 0);
        run.read(term.toString(), 1);
        List<Map<Integer, Plain>> due = Plain.matchers(plain, term);
        String call = "match of " + plain + " and " + term;
        int found = run.terms.match(0, 1);
        Run.due(call, found, due.size() > 50 ? -4 : due.size());
        for (int i = 0; i < found && i < 20; i++) {
            for (int variable = 0; variable < 22; variable++) {
                Plain put = due.get(i).get(variable);
                int answer = run.terms.matched(i, variable, 2);
                Run.due(call + ", matched " + i, answer, put == null ? -2 : put.nodes());
                if (put != null && i < 5) {
                    Run.due(call + ", matched " + i, run.printed(2), put.toString());
                }
            }
            Run.due(call + ", instance " + i, run.terms.instance(i, 0, 2), term.nodes());
            Run.due(call + ", instance EQUAL to the TERM", run.terms.order(2, 1), 0);
        }
        if (found > 0) {
            instance(run, due.get(found - 1), found - 1);
        }
        Run.due(call + ", behind the last one", run.terms.matched(Math.max(found, 0), 0, 2), -1);
    }

    private static void instance(Run run, Map<Integer, Plain> puts, int i) {
        String text = shortTerm(3, "vxzPu", 40);
        Plain put = Plain.read(text).with(puts);
        run.read(text, 3);
        String call = "instance of " + text + " by " + puts;
        Run.due(call, run.terms.instance(i, 3, 4), put.isFull() ? -4 : put.nodes());
        Run.due(call, run.printed(4), put.isFull() ? "-2" : put.toString());
    }

    private static void systems() {
        int[][] rows = new int[1 + upTo(2)][1 + upTo(5)];
        int span = 1 + upTo(rows[0].length > 4 ? 6 : 9);
        int most = 1 + upTo(8);
        Run run = new Run();
        Run.due("system", run.terms.system(rows.length, rows[0].length), 1);
        for (int r = 0; r < rows.length; r++) {
            for (int k = 0; k < rows[r].length; k++) {
                rows[r][k] = upTo(2 * most) - most;
                Run.due("number", run.terms.number(r, k, rows[r][k]), 0);
            }
        }
        int[] bounds = new int[rows[0].length];
        Arrays.fill(bounds, span);
        List<int[]> due = Plain.basis(rows, bounds, span);
        String call = "solve(" + span + ") of " + Arrays.deepToString(rows);
        int found = run.terms.solve(span);
        Run.due(call, found, due.size() > 100 ? -4 : due.size());
        for (int i = 0; i < Math.min(found, 60); i++) {
            for (int k = 0; k < bounds.length; k++) {
                Run.due(call + ", solution " + i, run.terms.solution(i, k), due.get(i)[k]);
            }
        }
        Run.due(call + ", behind the last one", run.terms.solution(Math.max(found, 0), 0), -1);
    }

    private static String side(int symbol, int most) {
        List<String> parts = new ArrayList<>();
        String[] choices = {"u", "x", "x", "y", "z", "a", "b", "f(a)", symbol == 0 ? "a*b" : "(a+b)", "A", "f(x)"};
        // the last two are refused, so they come seldom
        int last = upTo(9) == 0 ? 10 : 8;
        for (int n = 1 + upTo(most - 1); n > 0; n--) {
            parts.add(choices[upTo(last)]);
        }
        return String.join(symbol == 0 ? "+" : "*", parts);
    }

    private static void unifying() {
        int symbol = upTo(1);
        String left = side(upTo(9) == 0 ? 1 - symbol : symbol, 5);
        String right = side(symbol, 4);
        Run run = new Run();
        run.read(left, 0);
        run.read(right, 1);
        Plain.Unifiers due = Plain.unifiers(Plain.read(left), Plain.read(right), symbol);
        String call = "unify of " + left + " and " + right + " in " + symbol;
        int found = run.terms.unify(0, 1, symbol);
        Run.due(call, found, due.refusal != 0 ? due.refusal : due.sets.size());
        if (found <= 0) {
            Run.due(call + ", bases", run.terms.bases(0), -2);
            Run.due(call + ", base", run.terms.base(0, 0), -1);
            Run.due(call + ", set", run.terms.set(0), -1);
            return;
        }
        Run.due(call + ", bases(0)", run.terms.bases(0), due.bases.size());
        Run.due(call + ", bases(1)", run.terms.bases(1), due.usable.stream().filter(u -> u).count());
        Run.due(call + ", bases(2)", run.terms.bases(2), due.unknowns.size());
        for (int b = 0; b < due.bases.size(); b++) {
            for (int j = 0; j < due.unknowns.size(); j++) {
                Run.due(call + ", base " + b, run.terms.base(b, j), due.bases.get(b)[j]);
            }
        }
        for (int n = 0; n < 20; n++) {
            int i = n == 0 ? found - 1 : upTo(found - 1);
            Run.due(call + ", set " + i, run.terms.set(i), due.sets.get(i));
            unified(run, due.puts(due.sets.get(i)), i, Plain.read(left), 0);
            Run.due(call + ", unified EQUAL", run.terms.unified(i, 0, 3) < 0 || run.terms.unified(i, 1, 4) < 0 ? 0
                    : run.terms.order(3, 4), 0);
        }
        String text = shortTerm(3, "uxyzvA", 30);
        run.read(text, 5);
        unified(run, due.puts(due.sets.get(0)), 0, Plain.read(text), 5);
        Run.due(call + ", behind the last one", run.terms.set(found), -1);
    }

    private static void unified(Run run, Map<Integer, Plain> puts, int i, Plain term, int slot) {
        Plain put = term.with(puts);
        String call = "unified of " + term + " by " + puts;
        int before = run.terms.told(2, 3);
        Run.due(call, run.terms.unified(i, slot, 2), put.isFull() ? -4 : put.nodes());
        if (put.isFull()) {
            Run.due(call + " leaves the SLOT", run.terms.told(2, 3), before);
        } else {
            Run.due(call, run.printed(2), put.toString());
        }
    }
}
