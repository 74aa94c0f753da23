import java.util.ArrayList;
import java.util.Collections;
import java.util.List;
import java.util.Random;

/**
 * The document's first sentence, clause by clause, on made TERMS. What is due comes from the class itself: the answer
 * of one call is put in another one again, and both must hold together.
 */
public final class FirstSentenceTest {
    private static final Random RANDOM = new Random(20261116);
    private static final int ROUNDS = 300;

    private interface Clause {
        void test();
    }

    public static void main(String[] args) {
        int rounds = args.length > 0 ? Integer.parseInt(args[0]) : ROUNDS;
        Run.sentence("Terms whose sums and products may be put in any order and bracketed as one likes");
        repeat(rounds, FirstSentenceTest::anyOrder);
        Run.sentence("read and printed in one form");
        repeat(rounds, FirstSentenceTest::oneForm);
        Run.sentence("ordered");
        repeat(rounds / 10, FirstSentenceTest::ordered);
        Run.sentence("matched in all ways");
        repeat(rounds, FirstSentenceTest::matchedInAllWays);
        Run.sentence("made equal in all ways that Diophantine equations tell");
        repeat(rounds, FirstSentenceTest::madeEqual);
        repeat(rounds, FirstSentenceTest::madeEqualInAllWays);
        Run.sentence("systems of such equations and their least solutions");
        repeat(rounds, FirstSentenceTest::sameBasis);
        Run.sentence("each answer can be put in again");
        repeat(rounds, FirstSentenceTest::partsAgain);
        Run.end();
    }

    private static void repeat(int times, Clause clause) {
        for (int i = 0; i < times; i++) {
            clause.test();
        }
    }

    // ---- made TERMS

    private static int below(int bound) {
        return RANDOM.nextInt(bound);
    }

    private static String one(String letters) {
        return String.valueOf(letters.charAt(below(letters.length())));
    }

    private static Plain term(int depth, String letters) {
        int kind = depth == 0 ? 0 : below(4);
        if (kind == 0) {
            return Plain.read(one(letters));
        }
        List<Plain> parts = new ArrayList<>();
        for (int n = kind == 1 ? 1 + below(3) : 2 + below(3); n > 0; n--) {
            parts.add(term(depth - 1, letters));
        }
        return kind == 1 ? Plain.of(2, below(3), parts) : Plain.of(1 + kind, 0, parts);
    }

    /** A TERM that can be read. */
    private static Plain readable(int depth, String letters) {
        Plain made = term(depth, letters);
        while (made.isFull() || made.toString().length() > 64 || Plain.fault(made.toString()) >= 0) {
            made = term(depth, letters);
        }
        return made;
    }

    /** Its text with PARTS in any order, brackets and blanks as they come. */
    private static String scrambled(Plain term) {
        List<String> texts = new ArrayList<>();
        for (Plain part : term.parts) {
            texts.add(scrambled(part));
        }
        String text = term.toString().substring(0, 1);
        if (term.kind == 2) {
            text += blank() + "(" + String.join(blank() + ",", texts) + ")";
        } else if (term.kind > 2) {
            Collections.shuffle(texts, RANDOM);
            text = grouped(texts, term.kind == 3 ? "+" : "*");
        }
        return blank() + (term.kind == 3 || below(9) == 0 ? "(" + text + blank() + ")" : text);
    }

    private static String grouped(List<String> texts, String sign) {
        if (texts.size() == 1) {
            return texts.get(0);
        }
        int cut = 1 + below(texts.size() - 1);
        String left = grouped(texts.subList(0, cut), sign);
        String right = grouped(texts.subList(cut, texts.size()), sign);
        boolean brackets = texts.size() > 2 && below(4) == 0;
        return (brackets ? "(" : "") + left + blank() + sign + right + (brackets ? ")" : "");
    }

    private static String blank() {
        return below(12) == 0 ? " " : "";
    }

    // ---- the clauses

    private static void anyOrder() {
        Plain term = readable(3, "xyzPabc");
        Run run = Run.with(term.toString());
        for (int n = 0; n < 5; n++) {
            String text = scrambled(term);
            if (text.length() <= 64 && Plain.fault(text) < 0) {
                Run.due("read of " + text, run.read(text, 1), run.terms.told(0, 3));
                Run.due(text + " is EQUAL to " + term, run.terms.order(0, 1), 0);
                Run.due("print of " + text, run.printed(1), run.printed(0));
            }
        }
    }

    private static void oneForm() {
        Run run = Run.with(readable(3, "uzAPade").toString());
        String text = run.printed(0);
        Run.due("read of " + text, run.read(text, 1), run.terms.told(0, 3));
        Run.due("print of what was read", run.printed(1), text);
        for (int what = 0; what < 5; what++) {
            Run.due(what + " of " + text, run.terms.told(1, what), run.terms.told(0, what));
        }
    }

    private static void ordered() {
        Run run = new Run();
        String[] texts = new String[6];
        for (int slot = 0; slot < 6; slot++) {
            texts[slot] = readable(1 + below(2), "xab").toString();
            run.read(texts[slot], slot);
        }
        for (int s = 0; s < 6; s++) {
            for (int t = 0; t < 6; t++) {
                int order = run.terms.order(s, t);
                Run.due(texts[s] + ", " + texts[t] + ": EQUAL", order == 0 ? 1 : 0, texts[s].equals(texts[t]) ? 1 : 0);
                Run.due(texts[s] + ", " + texts[t] + ": the other way", run.terms.order(t, s), order == 0 ? 0 : 3 - order);
                for (int r = 0; order == 1 && r < 6; r++) {
                    if (run.terms.order(t, r) == 1) {
                        Run.due(texts[s] + " ahead of " + texts[t] + " ahead of " + texts[r], run.terms.order(s, r), 1);
                    }
                }
            }
        }
    }

    /** Puts TERMS for x, y, z in a PATTERN and finds them again, by what the class itself has made. */
    private static void matchedInAllWays() {
        Plain pattern = readable(1 + below(2), "xyzxyza");
        Plain puts = Plain.of(2, 2, List.of(readable(1, "ab"), readable(1, "abc"), readable(1, "abc")));
        Run run = Run.with("h(x,y,z)", puts.toString(), pattern.toString());
        Run.due("one MATCHER", run.terms.match(0, 1), 1);
        if (run.terms.instance(0, 2, 3) < 0) {
            return;
        }
        int found = run.terms.match(2, 3);
        String call = "match of " + pattern + " and " + run.printed(3);
        boolean again = found == AcTerms.FULL;
        for (int i = 0; i < Math.min(found, 20); i++) {
            Run.due(call + ": instance " + i, run.terms.instance(i, 2, 4), run.terms.told(3, 3));
            Run.due(call + ": EQUAL " + i, run.terms.order(3, 4), 0);
            run.terms.instance(i, 0, 5 + i % 2);
            Run.due(call + ": " + i + " is behind the one before", i == 0 ? 1 : run.terms.order(6 - i % 2, 5 + i % 2), 1);
            run.terms.instance(i, 2, 4);
            again |= sameFor(run, i, pattern);
        }
        Run.due(call + ": what was put is found", again || found > 20 ? 1 : 0, 1);
        Run.due(call + ": no more", run.terms.instance(Math.max(found, 0), 2, 4), -1);
    }

    /** Whether a MATCHER puts for the PATTERN's VARIABLES what stands in SLOT 1. */
    private static boolean sameFor(Run run, int i, Plain pattern) {
        boolean same = true;
        for (int variable : pattern.variables()) {
            run.terms.part(1, variable - 3, 7);
            run.terms.matched(i, variable, 8);
            same &= run.terms.order(7, 8) == 0;
        }
        return same;
    }

    private static String side(String variables, int most) {
        List<String> parts = new ArrayList<>(List.of(variables.split("")));
        for (int n = below(most); n > 0; n--) {
            parts.add(below(2) == 0 ? one(variables) : one("aab"));
        }
        return String.join("+", parts);
    }

    private static void madeEqual() {
        Run run = Run.with(side("uv", 3), side(below(2) == 0 ? "xy" : "vx", 4));
        int found = run.terms.unify(0, 1, 0);
        String call = "unify of " + run.printed(0) + " and " + run.printed(1);
        for (int n = 0; n < Math.min(found, 30); n++) {
            int i = found <= 30 ? n : below(found);
            int left = run.terms.unified(i, 0, 2);
            Run.due(call + ": both are as large, " + i, run.terms.unified(i, 1, 3), left);
            Run.due(call + ": EQUAL " + i, left > 0 ? run.terms.order(2, 3) : 0, 0);
            Run.due(call + ": SETS ascend, " + i, i == 0 || run.terms.set(i - 1) < run.terms.set(i) ? 1 : 0, 1);
        }
        Run.due(call + ": no more", run.terms.set(Math.max(found, 0)), -1);
    }

    /** Two sides that can both be made EQUAL to one TERM: some UNIFIER can be brought to what does it. */
    private static void madeEqualInAllWays() {
        Run run = Run.with(side("uv", 2), side("xy", 2), "f(f(u,v),f(x,y))", side("ab", 4).replaceAll("a$", "c"));
        int left = run.terms.match(0, 3);
        int right = left > 0 ? run.terms.match(1, 3) : 0;
        if (right <= 0) {
            return;
        }
        run.terms.instance(below(right), 2, 4);
        run.terms.match(0, 3);
        run.terms.instance(below(left), 4, 4);
        int found = run.terms.unify(0, 1, 0);
        String call = "unify of " + run.printed(0) + " and " + run.printed(1) + " for " + run.printed(4);
        boolean reached = false;
        boolean unclear = found == AcTerms.FULL || found > 150;
        for (int i = 0; i < Math.min(found, 150) && !reached; i++) {
            int ways = run.terms.unified(i, 2, 5) > 0 ? run.terms.match(5, 4) : AcTerms.NOT;
            unclear |= ways == AcTerms.NOT;
            reached = ways > 0 || ways == AcTerms.FULL;
        }
        Run.due(call, reached || unclear ? 1 : 0, 1);
    }

    /** What unify() solves, put in as a SYSTEM: two sides of 8 PARTS have no BASE of more than 16 together. */
    private static void sameBasis() {
        String left = side("u", 7);
        String right = side("z", 7);
        Run run = Run.with(left, right);
        int found = run.terms.unify(0, 1, 0);
        List<Integer> numbers = new ArrayList<>();
        for (char unknown : "uzab".toCharArray()) {
            int number = often(left, unknown) - often(right, unknown);
            if (number != 0) {
                numbers.add(number);
            }
        }
        run.terms.system(1, numbers.size());
        for (int j = 0; j < numbers.size(); j++) {
            run.terms.number(0, j, numbers.get(j));
        }
        int solutions = run.terms.solve(16);
        String call = "unify of " + left + " and " + right + ", solve of " + numbers;
        Run.due(call + ": UNKNOWNS", run.terms.bases(2), found > 0 ? numbers.size() : -2);
        Run.due(call + ": BASES", run.terms.bases(0), found > 0 ? solutions : -2);
        for (int i = 0; i < solutions && found > 0; i++) {
            for (int j = 0; j < numbers.size(); j++) {
                Run.due(call + ": BASE " + i, run.terms.base(i, j), run.terms.solution(i, j));
            }
        }
    }

    private static int often(String text, char letter) {
        return (int) text.chars().filter(c -> c == letter).count();
    }

    private static void partsAgain() {
        Plain term = readable(2, "xyabc");
        Run run = Run.with(term.toString());
        int parts = run.terms.told(0, 2);
        int symbol = run.terms.told(0, 0) - 3;
        if (symbol < 0) {
            return;
        }
        List<Integer> order = new ArrayList<>();
        for (int i = 0; i < parts; i++) {
            order.add(i);
        }
        Collections.shuffle(order, RANDOM);
        run.terms.part(0, order.get(0), 1);
        for (int i = 1; i < parts; i++) {
            run.terms.part(0, order.get(i), 2);
            run.terms.join(1, 2, symbol, 1);
        }
        Run.due("the PARTS of " + term + " joined again", run.terms.order(0, 1), 0);
        Run.due("no MATCHER but one", run.terms.match(0, 1), term.variables().isEmpty() ? 1 : -3);
    }
}
