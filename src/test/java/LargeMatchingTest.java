import java.util.ArrayList;
import java.util.List;
import java.util.Random;
import java.util.TreeMap;
import java.util.TreeSet;

/**
 * MATCHERS of PATTERNS and TERMS that are too large for Plain, against a second search: it takes one PART of the
 * PATTERN after the other and tries all that is left for it, with no thought on which comes first.
 */
public final class LargeMatchingTest {
    private static final Random RANDOM = new Random(20261116);
    private static final int ENOUGH = 51, MOST_STEPS = 100_000;
    private static final String[] VARIABLES = {"vxzP", "uvwx", "xyAB"};

    /** What is still to be made EQUAL: a row of PARTS of the PATTERN, and a row of the TERM's; kind 2: in their order. */
    private static final class Goal {
        final int kind;
        final List<Plain> patterns;
        final List<Plain> parts;
        final Goal next;

        Goal(int kind, List<Plain> patterns, List<Plain> parts, Goal next) {
            this.kind = kind;
            this.patterns = patterns;
            this.parts = parts;
            this.next = next;
        }
    }

    private final TreeMap<Integer, Plain> puts = new TreeMap<>();
    private final TreeSet<TreeMap<Integer, Plain>> found = new TreeSet<>(LargeMatchingTest::compared);
    private int steps;

    public static void main(String[] args) {
        int rounds = args.length > 0 ? Integer.parseInt(args[0]) : 1500;
        for (int i = 0; i < rounds; i++) {
            String variables = VARIABLES[below(3)].substring(0, 1 + below(4));
            Plain pattern = pattern(variables);
            Plain term = instance(pattern);
            Plain other = term != null && below(6) == 0 ? changed(term) : term;
            if (other != null && canBeRead(pattern) && canBeRead(other)) {
                compare(pattern, other);
            }
        }
        Run.end();
    }

    // ---- made PATTERNS and TERMS

    private static int below(int bound) {
        return RANDOM.nextInt(bound);
    }

    private static Plain letter(String letters) {
        return Plain.read(String.valueOf(letters.charAt(below(letters.length()))));
    }

    private static Plain pattern(String variables) {
        int kind = 3 + below(2);
        return below(3) > 0 ? row(kind, variables, 2)
                : Plain.of(2, 0, List.of(row(kind, variables, 1), row(kind, variables, 1)));
    }

    private static Plain row(int kind, String variables, int depth) {
        List<Plain> parts = new ArrayList<>();
        for (int n = 2 + below(3); n > 0; n--) {
            int sort = depth == 0 ? 0 : below(10);
            if (sort < 5) {
                parts.add(letter(variables));
            } else if (sort < 7) {
                parts.add(Plain.of(2, 0, List.of(row(3 + below(2), variables, depth - 1))));
            } else if (sort < 9) {
                parts.add(row(7 - kind, variables, depth - 1));
            } else {
                parts.add(letter("abc"));
            }
        }
        return Plain.of(kind, 0, parts);
    }

    private static Plain instance(Plain pattern) {
        for (int tries = 0; tries < 30; tries++) {
            TreeMap<Integer, Plain> made = new TreeMap<>();
            for (int variable : pattern.variables()) {
                made.put(variable, below(3) == 0 ? letter("abc") : row(3 + below(2), "abcd", below(2)));
            }
            Plain term = pattern.with(made);
            if (!term.isFull()) {
                return term;
            }
        }
        return null;
    }

    private static Plain changed(Plain term) {
        List<Plain> parts = new ArrayList<>(term.parts);
        parts.set(below(parts.size()), parts.get(below(parts.size())));
        return Plain.of(term.kind, term.number, parts);
    }

    private static boolean canBeRead(Plain term) {
        String text = term.toString();
        return !term.isFull() && text.length() <= 64 && Plain.fault(text) < 0;
    }

    // ---- the second search

    private static int compared(TreeMap<Integer, Plain> one, TreeMap<Integer, Plain> other) {
        for (int variable : one.keySet()) {
            int compared = one.get(variable).compareTo(other.get(variable));
            if (compared != 0) {
                return compared;
            }
        }
        return 0;
    }

    private void search(Goal goal) {
        steps++;
        if (found.size() >= ENOUGH || steps > MOST_STEPS) {
            return;
        }
        if (goal == null) {
            found.add(new TreeMap<>(puts));
            return;
        }
        if (goal.patterns.isEmpty() || goal.parts.size() < goal.patterns.size()) {
            if (goal.patterns.isEmpty() && goal.parts.isEmpty()) {
                search(goal.next);
            }
            return;
        }
        Plain first = goal.patterns.get(0);
        List<Plain> others = goal.patterns.subList(1, goal.patterns.size());
        int all = goal.kind == 2 ? 2 : 1 << goal.parts.size();
        for (int bits = 1; bits < all; bits++) {
            if (first.kind == 0 || Integer.bitCount(bits) == 1) {
                List<Plain> taken = new ArrayList<>();
                List<Plain> left = new ArrayList<>();
                for (int i = 0; i < goal.parts.size(); i++) {
                    ((bits >> i & 1) != 0 ? taken : left).add(goal.parts.get(i));
                }
                makeEqual(first, Plain.of(goal.kind == 2 ? 3 : goal.kind, 0, taken),
                        new Goal(goal.kind, others, left, goal.next));
            }
        }
    }

    private void makeEqual(Plain pattern, Plain term, Goal next) {
        if (pattern.kind == 0) {
            Plain before = puts.putIfAbsent(pattern.number, term);
            if (before == null || before.compareTo(term) == 0) {
                search(next);
            }
            if (before == null) {
                puts.remove(pattern.number);
            }
        } else if (pattern.kind == term.kind && pattern.number == term.number) {
            boolean loose = pattern.kind > 2;
            if (loose || pattern.parts.size() == term.parts.size()) {
                search(new Goal(Math.max(2, pattern.kind), pattern.parts, term.parts, next));
            }
        }
    }

    // ---- both

    private static void compare(Plain pattern, Plain term) {
        LargeMatchingTest second = new LargeMatchingTest();
        second.makeEqual(pattern, term, null);
        if (second.steps > MOST_STEPS) {
            return;
        }
        Run run = Run.with(pattern.toString(), term.toString());
        String call = "match of " + pattern + " and " + term;
        int count = run.terms.match(0, 1);
        Run.due(call, count, second.found.size() == ENOUGH ? AcTerms.FULL : second.found.size());
        int i = 0;
        for (TreeMap<Integer, Plain> one : second.found) {
            for (int variable : one.keySet()) {
                if (i < Math.min(count, 10)) {
                    Run.due(call + ": NODES", run.terms.matched(i, variable, 2), one.get(variable).nodes());
                    Run.due(call + ": MATCHER " + i, run.printed(2), one.get(variable).toString());
                }
            }
            i++;
        }
    }
}
