import java.util.ArrayList;
import java.util.Collections;
import java.util.List;
import java.util.Map;
import java.util.TreeMap;
import java.util.TreeSet;

/** A second way to all that the document asks of TERMS, as plain as it can be: it tries everything. */
final class Plain implements Comparable<Plain> {
    static final String[] LETTERS = {"uvwxyzABCDEFGHIJKLMNOP", "abcde", "fgh"};
    final int kind;
    final int number;
    final List<Plain> parts;

    private Plain(int kind, int number, List<Plain> parts) {
        this.kind = kind;
        this.number = number;
        this.parts = parts;
    }

    static Plain variable(int number) {
        return new Plain(0, number, List.of());
    }

    /** Flat and sorted, as large as it comes. */
    static Plain of(int kind, int number, List<Plain> given) {
        if (kind < 3) {
            return new Plain(kind, number, List.copyOf(given));
        }
        List<Plain> flat = new ArrayList<>();
        for (Plain part : given) {
            flat.addAll(part.kind == kind ? part.parts : List.of(part));
        }
        Collections.sort(flat);
        return flat.size() == 1 ? flat.get(0) : new Plain(kind, 0, flat);
    }

    @Override
    public int compareTo(Plain other) {
        int[] mine = {kind, number, parts.size()};
        int[] others = {other.kind, other.number, other.parts.size()};
        for (int i = 0; i < 3; i++) {
            if (mine[i] != others[i]) {
                return mine[i] < others[i] ? -1 : 1;
            }
        }
        for (int i = 0; i < parts.size(); i++) {
            int compared = parts.get(i).compareTo(other.parts.get(i));
            if (compared != 0) {
                return compared;
            }
        }
        return 0;
    }

    @Override
    public String toString() {
        StringBuilder text = new StringBuilder();
        if (kind < 3) {
            text.append(LETTERS[kind].charAt(number));
        }
        String between = kind == 2 ? "," : kind == 3 ? "+" : "*";
        List<String> texts = new ArrayList<>();
        for (Plain part : parts) {
            texts.add(kind == 4 && part.kind == 3 ? "(" + part + ")" : part.toString());
        }
        String inner = String.join(between, texts);
        return text + (kind == 2 ? "(" + inner + ")" : inner);
    }

    int nodes() {
        int count = 1;
        for (Plain part : parts) {
            count += part.nodes();
        }
        return count;
    }

    boolean isFull() {
        return nodes() > 40 || hasLongRow();
    }

    private boolean hasLongRow() {
        if (kind > 2 && parts.size() > 8) {
            return true;
        }
        for (Plain part : parts) {
            if (part.hasLongRow()) {
                return true;
            }
        }
        return false;
    }

    TreeSet<Integer> variables() {
        TreeSet<Integer> all = new TreeSet<>();
        if (kind == 0) {
            all.add(number);
        }
        for (Plain part : parts) {
            all.addAll(part.variables());
        }
        return all;
    }

    Plain with(Map<Integer, Plain> puts) {
        if (kind == 0) {
            return puts.getOrDefault(number, this);
        }
        List<Plain> changed = new ArrayList<>();
        for (Plain part : parts) {
            changed.add(part.with(puts));
        }
        return of(kind, number, changed);
    }

    // ---- texts

    /** The place of the first byte that can't stand there, -1 for none: a stack of open brackets, and two states. */
    static int fault(String text) {
        List<Integer> open = new ArrayList<>();
        boolean wantsAtom = true;
        boolean wantsBracket = false;
        for (int i = 0; i < text.length(); i++) {
            char c = text.charAt(i);
            if (c == ' ') {
                continue;
            }
            if (wantsBracket || wantsAtom && c == '(') {
                if (c != '(' || open.size() == 8) {
                    return i;
                }
                // how many TERMS may stand in it
                open.add(wantsBracket ? 3 : 1);
                wantsBracket = false;
            } else if (wantsAtom) {
                if (LETTERS[2].indexOf(c) >= 0) {
                    wantsBracket = true;
                } else if (LETTERS[0].indexOf(c) >= 0 || LETTERS[1].indexOf(c) >= 0) {
                    wantsAtom = false;
                } else {
                    return i;
                }
            } else if (c == '+' || c == '*') {
                wantsAtom = true;
            } else if (c == ')' && !open.isEmpty()) {
                open.remove(open.size() - 1);
            } else if (c == ',' && !open.isEmpty() && open.get(open.size() - 1) > 1) {
                open.set(open.size() - 1, open.get(open.size() - 1) - 1);
                wantsAtom = true;
            } else {
                return i;
            }
        }
        return wantsAtom || wantsBracket || !open.isEmpty() ? text.length() : -1;
    }

    /** Of a text without a FAULT. */
    static Plain read(String text) {
        String t = text.replace(" ", "");
        for (int kind = 3; kind <= 4; kind++) {
            List<String> pieces = split(t, kind == 3 ? '+' : '*');
            if (pieces.size() > 1) {
                return of(kind, 0, readAll(pieces));
            }
        }
        char c = t.charAt(0);
        if (c == '(') {
            return read(t.substring(1, t.length() - 1));
        }
        int function = LETTERS[2].indexOf(c);
        if (function >= 0) {
            return of(2, function, readAll(split(t.substring(2, t.length() - 1), ',')));
        }
        int variable = LETTERS[0].indexOf(c);
        return variable >= 0 ? variable(variable) : of(1, LETTERS[1].indexOf(c), List.of());
    }

    private static List<Plain> readAll(List<String> texts) {
        List<Plain> all = new ArrayList<>();
        for (String text : texts) {
            all.add(read(text));
        }
        return all;
    }

    private static List<String> split(String text, char at) {
        List<String> pieces = new ArrayList<>();
        int depth = 0;
        int from = 0;
        for (int i = 0; i < text.length(); i++) {
            char c = text.charAt(i);
            depth += c == '(' ? 1 : c == ')' ? -1 : 0;
            if (depth == 0 && c == at) {
                pieces.add(text.substring(from, i));
                from = i + 1;
            }
        }
        pieces.add(text.substring(from));
        return pieces;
    }

    // ---- matching

    /** Everything that a VARIABLE could stand for in this TERM: its TERMS, and PARTS of its SUMS and PRODUCTS together. */
    TreeSet<Plain> candidates() {
        TreeSet<Plain> all = new TreeSet<>();
        all.add(this);
        for (Plain part : parts) {
            all.addAll(part.candidates());
        }
        for (int bits = 1; kind > 2 && bits < 1 << parts.size(); bits++) {
            List<Plain> some = new ArrayList<>();
            for (int i = 0; i < parts.size(); i++) {
                if ((bits >> i & 1) != 0) {
                    some.add(parts.get(i));
                }
            }
            all.add(of(kind, 0, some));
        }
        return all;
    }

    /** All MATCHERS in their order, by trying all candidates for all VARIABLES. */
    static List<Map<Integer, Plain>> matchers(Plain pattern, Plain term) {
        List<Map<Integer, Plain>> found = new ArrayList<>();
        tryAll(pattern, term, new ArrayList<>(pattern.variables()), new TreeMap<>(), found);
        return found;
    }

    private static void tryAll(Plain pattern, Plain term, List<Integer> variables, TreeMap<Integer, Plain> puts,
            List<Map<Integer, Plain>> found) {
        if (puts.size() == variables.size()) {
            if (pattern.with(puts).compareTo(term) == 0) {
                found.add(new TreeMap<>(puts));
            }
            return;
        }
        int variable = variables.get(puts.size());
        for (Plain candidate : term.candidates()) {
            puts.put(variable, candidate);
            tryAll(pattern, term, variables, puts, found);
            puts.remove(variable);
        }
    }

    // ---- systems

    /** All least SOLUTIONS with numbers up to each UNKNOWN's own bound and SPAN at most together, in their order. */
    static List<int[]> basis(int[][] rows, int[] bounds, int span) {
        List<int[]> solutions = new ArrayList<>();
        collect(rows, bounds, new int[bounds.length], 0, span, solutions);
        List<int[]> least = new ArrayList<>();
        for (int[] one : solutions) {
            boolean is = true;
            for (int[] other : solutions) {
                is &= one == other || !isBelow(other, one);
            }
            if (is) {
                least.add(one);
            }
        }
        return least;
    }

    private static boolean isBelow(int[] one, int[] other) {
        for (int i = 0; i < one.length; i++) {
            if (one[i] > other[i]) {
                return false;
            }
        }
        return true;
    }

    private static void collect(int[][] rows, int[] bounds, int[] v, int k, int left, List<int[]> solutions) {
        if (k < v.length) {
            for (v[k] = 0; v[k] <= Math.min(left, bounds[k]); v[k]++) {
                collect(rows, bounds, v, k + 1, left - v[k], solutions);
            }
            v[k] = 0;
            return;
        }
        int together = 0;
        for (int number : v) {
            together += number;
        }
        boolean solved = together > 0;
        for (int[] row : rows) {
            int sum = 0;
            for (int i = 0; i < v.length; i++) {
                sum += row[i] * v[i];
            }
            solved &= sum == 0;
        }
        if (solved) {
            solutions.add(v.clone());
        }
    }

    // ---- making equal

    /** What unify() finds, or its refusal. */
    static final class Unifiers {
        int refusal;
        final List<Plain> unknowns = new ArrayList<>();
        List<int[]> bases = new ArrayList<>();
        final List<Boolean> usable = new ArrayList<>();
        final List<Integer> sets = new ArrayList<>();
        int kind;

        Map<Integer, Plain> puts(int set) {
            Map<Integer, Plain> puts = new TreeMap<>();
            for (int j = 0; j < unknowns.size(); j++) {
                if (unknowns.get(j).kind == 0) {
                    List<Plain> all = new ArrayList<>();
                    for (int b = 0; b < bases.size(); b++) {
                        for (int n = 0; (set >> b & 1) != 0 && n < bases.get(b)[j]; n++) {
                            all.add(standsFor(b));
                        }
                    }
                    puts.put(unknowns.get(j).number, of(kind, 0, all));
                }
            }
            return puts;
        }

        private Plain standsFor(int b) {
            for (int j = 0; j < unknowns.size(); j++) {
                if (unknowns.get(j).kind != 0 && bases.get(b)[j] == 1) {
                    return unknowns.get(j);
                }
            }
            return variable(6 + b);
        }
    }

    static Unifiers unifiers(Plain s, Plain t, int symbol) {
        Unifiers made = new Unifiers();
        made.kind = 3 + symbol;
        List<Plain> left = new ArrayList<>(s.kind == made.kind ? s.parts : List.of(s));
        List<Plain> right = new ArrayList<>(t.kind == made.kind ? t.parts : List.of(t));
        for (List<Plain> side : List.of(left, right)) {
            for (Plain part : side) {
                TreeSet<Integer> variables = part.variables();
                if (!variables.isEmpty() && (part.kind != 0 || variables.last() > 5)) {
                    made.refusal = AcTerms.NOT;
                    return made;
                }
            }
        }
        cancel(left, right);
        if (left.isEmpty() && right.isEmpty()) {
            made.sets.add(0);
            return made;
        }
        if (left.isEmpty() || right.isEmpty()) {
            return made;
        }
        findBases(made, left, right);
        if (made.bases.size() > 16) {
            made.refusal = AcTerms.FULL;
            return made;
        }
        findSets(made);
        return made;
    }

    private static void cancel(List<Plain> left, List<Plain> right) {
        for (int i = left.size() - 1; i >= 0; i--) {
            for (int k = 0; k < right.size(); k++) {
                if (left.get(i).compareTo(right.get(k)) == 0) {
                    left.remove(i);
                    right.remove(k);
                    break;
                }
            }
        }
    }

    private static void findBases(Unifiers made, List<Plain> left, List<Plain> right) {
        TreeMap<Plain, Integer> numbers = new TreeMap<>();
        for (Plain part : left) {
            numbers.merge(part, 1, Integer::sum);
        }
        for (Plain part : right) {
            numbers.merge(part, -1, Integer::sum);
        }
        made.unknowns.addAll(numbers.keySet());
        int most = Collections.max(numbers.values());
        int least = -Collections.min(numbers.values());
        int[] row = new int[numbers.size()];
        int[] bounds = new int[numbers.size()];
        for (int j = 0; j < row.length; j++) {
            row[j] = numbers.get(made.unknowns.get(j));
            // Huet's bound, which needs no word on the numbers together
            bounds[j] = row[j] > 0 ? least : most;
        }
        made.bases = basis(new int[][] {row}, bounds, 1000);
    }

    private static void findSets(Unifiers made) {
        for (int[] base : made.bases) {
            int ground = 0;
            for (int j = 0; j < base.length; j++) {
                ground += made.unknowns.get(j).kind != 0 ? base[j] : 0;
            }
            made.usable.add(ground <= 1);
        }
        for (int set = 0; set < 1 << made.bases.size(); set++) {
            if (isGood(made, set)) {
                made.sets.add(set);
            }
        }
    }

    private static boolean isGood(Unifiers made, int set) {
        int[] sums = new int[made.unknowns.size()];
        for (int b = 0; b < made.bases.size(); b++) {
            if ((set >> b & 1) != 0) {
                if (!made.usable.get(b)) {
                    return false;
                }
                for (int j = 0; j < sums.length; j++) {
                    sums[j] += made.bases.get(b)[j];
                }
            }
        }
        for (int j = 0; j < sums.length; j++) {
            if (sums[j] < 1 || made.unknowns.get(j).kind != 0 && sums[j] != 1) {
                return false;
            }
        }
        return true;
    }
}
