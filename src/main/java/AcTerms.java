/**
 * TERMS whose SUMS and PRODUCTS have no order and no brackets of their own: reading, printing, ORDER, MATCHERS,
 * least solutions of Diophantine SYSTEMS and UNIFIERS. The words in capitals are those of the document.
 */
public final class AcTerms {
    public static final int BAD = -1, NONE = -2, NOT = -3, FULL = -4;

    private static final int VARIABLE = 0, CONSTANT = 1, FUNCTION = 2, SUM = 3, PRODUCT = 4;
    private static final String VARIABLE_LETTERS = "uvwxyzABCDEFGHIJKLMNOP";
    private static final String CONSTANT_LETTERS = "abcde";
    private static final String FUNCTION_LETTERS = "fgh";
    private static final int VARIABLES = 22, CONSTANTS = 5;
    /** VARIABLES from this one on stand for BASES and may not stand in what is unified. */
    private static final int FIRST_NEW = 6;

    private static final int SLOTS = 16;
    private static final int MOST_NODES = 40, MOST_PARTS = 8, MOST_FUNCTION_PARTS = 3;
    /** A TERM of MOST_NODES NODES goes no deeper; what recursion would is refused. */
    private static final int DEEPEST = 40;
    private static final int MOST_TEXT = 64, MOST_OPEN = 8, MOST_OUT = 256, FAULTS = -10;
    private static final int MOST_PATTERN_VARIABLES = 4, MOST_MATCHERS = 50;
    private static final int MOST_ROWS = 3, MOST_UNKNOWNS = 6, MOST_NUMBER = 9, MOST_SPAN = 16, MOST_SOLUTIONS = 100;
    private static final int BAD_NUMBER = BAD - 1000;
    private static final int MOST_BASES = 16;
    /** Two sides of MOST_PARTS PARTS, all of them different. */
    private static final int MOST_UNIFY_UNKNOWNS = 2 * MOST_PARTS;

    private final Term[] slots;
    private final Term[] puts;
    private final Maker maker;
    private final Reader reader;
    private final Printer printer;
    private final Matching matching;
    private final Basis diophantine;
    private final Unifying unifying;

    public AcTerms() {
        slots = new Term[SLOTS];
        puts = new Term[VARIABLES];
        maker = new Maker();
        reader = new Reader(maker);
        printer = new Printer();
        matching = new Matching();
        diophantine = new Basis(MOST_ROWS, MOST_UNKNOWNS, MOST_SOLUTIONS);
        unifying = new Unifying();
    }

    // ---- 1 terms

    public int type(long w, int n) {
        return reader.typed(w, n);
    }

    public int read(int slot) {
        if (!isSlot(slot)) {
            return BAD;
        }
        Term term = reader.parsed();
        return reader.fault >= 0 ? FAULTS - reader.fault : kept(slot, term);
    }

    public int told(int slot, int what) {
        if (!isSlot(slot) || what < 0 || what > 4) {
            return BAD;
        }
        Term term = slots[slot];
        if (term == null) {
            return NONE;
        }
        switch (what) {
            case 0:
                return term.kind;
            case 1:
                return term.number;
            case 2:
                return term.parts.length;
            case 3:
                return term.nodes;
            default:
                return Integer.bitCount(term.variables);
        }
    }

    public int part(int slot, int i, int to) {
        if (!isSlot(slot) || !isSlot(to)) {
            return BAD;
        }
        Term term = slots[slot];
        if (term == null) {
            return NONE;
        }
        if (i < 0 || i >= term.parts.length) {
            return BAD;
        }
        return kept(to, term.parts[i]);
    }

    public int order(int s, int t) {
        if (!isSlot(s) || !isSlot(t)) {
            return BAD;
        }
        Term first = slots[s];
        Term second = slots[t];
        if (first == null || second == null) {
            return NONE;
        }
        int compared = Term.compare(first, second, 0);
        return compared == 0 ? 0 : compared < 0 ? 1 : 2;
    }

    public int join(int s, int t, int symbol, int to) {
        if (!isSlot(s) || !isSlot(t) || !isSymbol(symbol) || !isSlot(to)) {
            return BAD;
        }
        Term first = slots[s];
        Term second = slots[t];
        if (first == null || second == null) {
            return NONE;
        }
        int mark = maker.mark();
        maker.push(first);
        maker.push(second);
        return kept(to, maker.together(SUM + symbol, mark));
    }

    public int print(int slot) {
        if (!isSlot(slot)) {
            return BAD;
        }
        Term term = slots[slot];
        return term == null ? NONE : printer.printed(term);
    }

    public int out(int i) {
        return printer.byteAt(i);
    }

    // ---- 2 matching

    public int match(int pattern, int term) {
        if (!isSlot(pattern) || !isSlot(term)) {
            return BAD;
        }
        Term first = slots[pattern];
        Term second = slots[term];
        if (first == null || second == null) {
            return NONE;
        }
        if (Integer.bitCount(first.variables) > MOST_PATTERN_VARIABLES || second.variables != 0) {
            return NOT;
        }
        return matching.found(first, second);
    }

    public int matched(int i, int variable, int to) {
        if (!matching.has(i) || variable < 0 || variable >= VARIABLES || !isSlot(to)) {
            return BAD;
        }
        if (!matching.inPattern(variable)) {
            return NONE;
        }
        return kept(to, matching.put(i, variable, maker));
    }

    public int instance(int i, int slot, int to) {
        if (!matching.has(i) || !isSlot(slot) || !isSlot(to)) {
            return BAD;
        }
        Term term = slots[slot];
        if (term == null) {
            return NONE;
        }
        for (int v = 0; v < VARIABLES; v++) {
            puts[v] = matching.inPattern(v) ? matching.put(i, v, maker) : maker.variable(v);
        }
        return kept(to, maker.replaced(term, puts, 0));
    }

    // ---- 3 systems

    public int system(int rows, int unknowns) {
        if (rows < 1 || rows > MOST_ROWS || unknowns < 1 || unknowns > MOST_UNKNOWNS) {
            return BAD;
        }
        diophantine.begin(rows, unknowns);
        return 1;
    }

    public int number(int row, int unknown, int v) {
        if (!diophantine.hasNumber(row, unknown) || v < -MOST_NUMBER || v > MOST_NUMBER) {
            return BAD_NUMBER;
        }
        return diophantine.changed(row, unknown, v);
    }

    public int solve(int span) {
        return span < 1 || span > MOST_SPAN ? BAD : diophantine.found(span);
    }

    public int solution(int i, int j) {
        return diophantine.has(i, j) ? diophantine.given(i, j) : BAD;
    }

    // ---- 4 making equal

    public int unify(int s, int t, int symbol) {
        if (!isSlot(s) || !isSlot(t) || !isSymbol(symbol)) {
            return BAD;
        }
        Term left = slots[s];
        Term right = slots[t];
        if (left == null || right == null) {
            return NONE;
        }
        int kind = SUM + symbol;
        if (!Unifying.takes(left, kind) || !Unifying.takes(right, kind)) {
            return NOT;
        }
        return unifying.found(left, right, kind);
    }

    public int bases(int what) {
        if (what < 0 || what > 2) {
            return BAD;
        }
        if (unifying.unifiers == 0) {
            return NONE;
        }
        return what == 0 ? unifying.basis.count : what == 1 ? unifying.usable : unifying.unknowns;
    }

    public int base(int i, int j) {
        return unifying.unifiers > 0 && unifying.basis.has(i, j) ? unifying.basis.given(i, j) : BAD;
    }

    public int set(int i) {
        return i < 0 || i >= unifying.unifiers ? BAD : unifying.bitsOf(i);
    }

    public int unified(int i, int slot, int to) {
        if (i < 0 || i >= unifying.unifiers || !isSlot(slot) || !isSlot(to)) {
            return BAD;
        }
        Term term = slots[slot];
        if (term == null) {
            return NONE;
        }
        unifying.fill(puts, i, maker);
        return kept(to, maker.replaced(term, puts, 0));
    }

    private static boolean isSlot(int slot) {
        return slot >= 0 && slot < SLOTS;
    }

    private static boolean isSymbol(int symbol) {
        return symbol == 0 || symbol == 1;
    }

    private int kept(int slot, Term term) {
        if (term == null) {
            return FULL;
        }
        slots[slot] = term;
        return term.nodes;
    }

    /** A TERM never changes, so SLOTS and other TERMS share it. PARTS of SUMS and PRODUCTS stand by ORDER. */
    private static final class Term {
        private final int kind;
        private final int number;
        private final Term[] parts;
        private final int nodes;
        private final int variables;

        private Term(int kind, int number, Term[] parts) {
            int count = 1;
            int bits = kind == VARIABLE ? 1 << number : 0;
            for (int i = 0; i < parts.length; i++) {
                count += parts[i].nodes;
                bits |= parts[i].variables;
            }
            this.kind = kind;
            this.number = number;
            this.parts = parts;
            this.nodes = count;
            this.variables = bits;
        }

        /** Less than 0, 0, more than 0: a stands ahead of b by ORDER, is EQUAL to it, stands behind it. */
        private static int compare(Term a, Term b, int depth) {
            int compared = Integer.compare(a.kind, b.kind);
            if (compared == 0) {
                compared = Integer.compare(a.number, b.number);
            }
            if (compared == 0) {
                compared = Integer.compare(a.parts.length, b.parts.length);
            }
            if (compared != 0 || depth >= DEEPEST) {
                return compared;
            }
            for (int i = 0; compared == 0 && i < a.parts.length; i++) {
                compared = compare(a.parts[i], b.parts[i], depth + 1);
            }
            return compared;
        }
    }

    /**
     * Makes TERMS from what has been pushed since a mark. null stands for a TERM that is FULL: what it is a PART of
     * is FULL too, for a SUM in a SUM loses its own NODE only where another one stands.
     */
    private static final class Maker {
        private static final int STACK = 2 * MOST_TEXT;
        private final Term[] letters;
        private final Term[] stack;
        private final Term[] row;
        private int top;

        private Maker() {
            Term[] none = new Term[0];
            letters = new Term[VARIABLES + CONSTANTS];
            for (int i = 0; i < letters.length; i++) {
                boolean variable = i < VARIABLES;
                letters[i] = new Term(variable ? VARIABLE : CONSTANT, variable ? i : i - VARIABLES, none);
            }
            stack = new Term[STACK];
            row = new Term[MOST_PARTS];
        }

        private Term variable(int number) {
            return number >= 0 && number < VARIABLES ? letters[number] : null;
        }

        private Term constant(int number) {
            return number >= 0 && number < CONSTANTS ? letters[VARIABLES + number] : null;
        }

        private int mark() {
            return top;
        }

        private void push(Term term) {
            if (top < STACK) {
                stack[top] = term;
                top++;
            }
        }

        private Term function(int number, int mark) {
            int count = top - mark;
            if (mark < 0 || count < 1) {
                return null;
            }
            top = mark;
            Term[] parts = new Term[count];
            for (int i = 0; i < count; i++) {
                if (stack[mark + i] == null) {
                    return null;
                }
                parts[i] = stack[mark + i];
            }
            return bounded(new Term(FUNCTION, number, parts));
        }

        /** The SUM or PRODUCT of what was pushed; one TERM alone stays what it is. */
        private Term together(int kind, int mark) {
            int end = top;
            if (mark < 0 || mark >= end) {
                return null;
            }
            top = mark;
            if (end - mark == 1) {
                return stack[mark];
            }
            int count = 0;
            for (int i = mark; i < end; i++) {
                Term term = stack[i];
                if (term == null) {
                    return null;
                }
                boolean alike = term.kind == kind;
                int more = alike ? term.parts.length : 1;
                for (int k = 0; k < more; k++) {
                    count = placed(alike ? term.parts[k] : term, count);
                }
            }
            return count > MOST_PARTS ? null : bounded(new Term(kind, 0, rowOf(count)));
        }

        /** Puts a PART into the row by ORDER: how many are there then, more than MOST_PARTS if it has no room. */
        private int placed(Term part, int count) {
            if (count < 0 || count >= MOST_PARTS) {
                return MOST_PARTS + 1;
            }
            int at = count;
            while (at > 0 && Term.compare(row[at - 1], part, 0) > 0) {
                row[at] = row[at - 1];
                at--;
            }
            row[at] = part;
            return count + 1;
        }

        private Term[] rowOf(int count) {
            int length = Math.max(0, Math.min(count, MOST_PARTS));
            Term[] parts = new Term[length];
            for (int i = 0; i < length; i++) {
                parts[i] = row[i];
            }
            return parts;
        }

        private static Term bounded(Term term) {
            return term.nodes > MOST_NODES ? null : term;
        }

        /** The TERM with what is put for each VARIABLE; a put that is null is a FULL one. */
        private Term replaced(Term term, Term[] puts, int depth) {
            if (term.variables == 0) {
                return term;
            }
            if (depth >= DEEPEST) {
                return null;
            }
            if (term.kind == VARIABLE) {
                return term.number < puts.length ? puts[term.number] : null;
            }
            int mark = top;
            for (int i = 0; i < term.parts.length; i++) {
                push(replaced(term.parts[i], puts, depth + 1));
            }
            return term.kind == FUNCTION ? function(term.number, mark) : together(term.kind, mark);
        }
    }

    /** THE TEXT and how it becomes a TERM. It is read to its end even if the TERM is FULL: a FAULT goes ahead. */
    private static final class Reader {
        private static final char END = 0;
        private final Maker maker;
        private final byte[] text;
        private int length;
        private int place;
        private int open;
        /** The place of the first byte that can't stand there; -1: none yet. */
        private int fault;

        private Reader(Maker maker) {
            this.maker = maker;
            text = new byte[MOST_TEXT];
            fault = -1;
        }

        private int typed(long w, int n) {
            if (n < 1 || n > 8) {
                return BAD;
            }
            for (int i = 0; i < n; i++) {
                int b = byteOf(w, i);
                if (b < 32 || b > 126) {
                    return BAD;
                }
            }
            if (length + n > MOST_TEXT) {
                return FULL;
            }
            for (int i = n - 1; i >= 0; i--) {
                text[length] = (byte) byteOf(w, i);
                length++;
            }
            return length;
        }

        private static int byteOf(long w, int i) {
            return (int) (w >>> (8 * i)) & 255;
        }

        private Term parsed() {
            place = 0;
            open = 0;
            fault = -1;
            Term term = sum();
            if (fault < 0 && next() != END) {
                fault = place;
            }
            length = 0;
            return term;
        }

        /** Goes to the next byte that is no blank, and tells it. */
        private char next() {
            while (place < length && text[place] == ' ') {
                place++;
            }
            return place < length ? (char) text[place] : END;
        }

        private boolean took(char symbol) {
            if (next() != symbol) {
                return false;
            }
            place++;
            return true;
        }

        private Term failed() {
            if (fault < 0) {
                fault = place;
            }
            return null;
        }

        private Term sum() {
            int mark = maker.mark();
            boolean more = true;
            for (int n = 0; more && n < MOST_TEXT; n++) {
                maker.push(product());
                more = fault < 0 && took('+');
            }
            return maker.together(SUM, mark);
        }

        private Term product() {
            int mark = maker.mark();
            boolean more = true;
            for (int n = 0; more && n < MOST_TEXT; n++) {
                maker.push(atom());
                more = fault < 0 && took('*');
            }
            return maker.together(PRODUCT, mark);
        }

        private Term atom() {
            char c = next();
            int variable = VARIABLE_LETTERS.indexOf(c);
            int constant = CONSTANT_LETTERS.indexOf(c);
            int function = FUNCTION_LETTERS.indexOf(c);
            if (variable >= 0 || constant >= 0 || function >= 0) {
                place++;
            }
            if (variable >= 0) {
                return maker.variable(variable);
            }
            if (constant >= 0) {
                return maker.constant(constant);
            }
            // MOST_OPEN is what keeps the recursion low
            if (open >= MOST_OPEN || !took('(')) {
                next();
                return failed();
            }
            open++;
            Term term = function >= 0 ? called(function) : sum();
            if (fault >= 0 || !took(')')) {
                return failed();
            }
            open--;
            return term;
        }

        private Term called(int function) {
            int mark = maker.mark();
            boolean more = true;
            for (int n = 1; more && n <= MOST_FUNCTION_PARTS; n++) {
                maker.push(sum());
                more = fault < 0 && n < MOST_FUNCTION_PARTS && took(',');
            }
            return maker.function(function, mark);
        }
    }

    /** THE OUT. */
    private static final class Printer {
        private final byte[] bytes;
        private int length;

        private Printer() {
            bytes = new byte[MOST_OUT];
        }

        private int byteAt(int i) {
            return i < 0 || i >= length ? NONE : bytes[i];
        }

        private int printed(Term term) {
            length = 0;
            write(term, 0);
            return length;
        }

        private void add(char c) {
            if (length < MOST_OUT) {
                bytes[length] = (byte) c;
                length++;
            }
        }

        private void write(Term term, int depth) {
            if (depth >= DEEPEST) {
                return;
            }
            writeLetter(term);
            boolean function = term.kind == FUNCTION;
            char between = function ? ',' : term.kind == SUM ? '+' : '*';
            for (int i = 0; i < term.parts.length; i++) {
                if (i > 0) {
                    add(between);
                }
                Term part = term.parts[i];
                boolean brackets = term.kind == PRODUCT && part.kind == SUM;
                if (brackets || function && i == 0) {
                    add('(');
                }
                write(part, depth + 1);
                if (brackets || function && i == term.parts.length - 1) {
                    add(')');
                }
            }
        }

        private void writeLetter(Term term) {
            if (term.kind > FUNCTION || term.number < 0) {
                return;
            }
            String letters = term.kind == VARIABLE ? VARIABLE_LETTERS
                    : term.kind == CONSTANT ? CONSTANT_LETTERS : FUNCTION_LETTERS;
            if (term.number < letters.length()) {
                add(letters.charAt(term.number));
            }
        }
    }

    /**
     * Up to MOST_PARTS small numbers in one long, so that a search makes no objects: a kind above bit 52, how many
     * in bits 48 to 51, then 6 bits for each, the first one highest. Longs of numbers that ascend then compare as
     * SUMS and PRODUCTS do by ORDER.
     */
    private static final class Row {
        private static final long ONE = 1L << 48;
        private static final long MISSING = -1;
        /** How many different numbers 6 bits can tell. */
        private static final int IDS = 64;

        private static long empty(int kind) {
            return (long) kind << 52;
        }

        private static int kind(long row) {
            return (int) (row >>> 52);
        }

        private static int size(long row) {
            return (int) (row >>> 48) & 15;
        }

        private static int at(long row, int i) {
            return (int) (row >>> (42 - 6 * i)) & 63;
        }

        private static long with(long row, int id) {
            int size = size(row);
            return size >= MOST_PARTS ? row : row + ONE | (long) id << (42 - 6 * size);
        }

        private static long without(long row, int i) {
            int shift = 42 - 6 * i;
            long above = row >>> (shift + 6) << (shift + 6);
            long below = row & (1L << shift) - 1;
            return (above | below << 6) - ONE;
        }

        /** One row less all the numbers of another one; MISSING if it has not all of them. */
        private static long minus(long row, long other) {
            long left = row;
            int size = size(other);
            for (int i = 0; i < size; i++) {
                int id = at(other, i);
                int k = 0;
                while (k < size(left) && at(left, k) != id) {
                    k++;
                }
                if (k >= size(left)) {
                    return MISSING;
                }
                left = without(left, k);
            }
            return left;
        }

        /** Each number once for each 'times' times that it stands in the row, which ascends. */
        private static long divided(long row, int times) {
            long made = empty(kind(row));
            int size = size(row);
            int i = 0;
            while (i < size) {
                boolean whole = times >= 1 && i + times <= size && at(row, i) == at(row, i + times - 1);
                if (whole) {
                    made = with(made, at(row, i));
                }
                i += whole ? times : 1;
            }
            return made;
        }

        /** The numbers whose bits are set; MISSING, if of like ones a later one is taken without the one before. */
        private static long picked(long row, int bits) {
            long made = empty(kind(row));
            int size = size(row);
            for (int i = 0; i < size; i++) {
                if ((bits >> i & 1) != 0) {
                    if (i > 0 && (bits >> (i - 1) & 1) == 0 && at(row, i) == at(row, i - 1)) {
                        return MISSING;
                    }
                    made = with(made, at(row, i));
                }
            }
            return made;
        }
    }

    /** The different TERMS in a TERM without VARIABLES, numbered from 1 on by ORDER, so that numbers stand for them. */
    private static final class Inside {
        private final Term[] terms;
        /** The numbers of each one's PARTS. */
        private final long[] rows;
        /** What a VARIABLE has if the TERM is put for it: as longs these compare by ORDER. */
        private final long[] values;
        private int count;

        private Inside() {
            terms = new Term[Row.IDS];
            rows = new long[Row.IDS];
            values = new long[Row.IDS];
        }

        private void take(Term whole) {
            count = 0;
            gather(whole, 0);
            for (int id = 1; id <= count; id++) {
                Term term = terms[id];
                boolean loose = term.kind > FUNCTION;
                long row = Row.empty(loose ? term.kind : 0);
                for (int i = 0; i < term.parts.length; i++) {
                    row = Row.with(row, idOf(term.parts[i]));
                }
                rows[id] = row;
                values[id] = loose ? row : Row.with(Row.empty(0), id);
            }
        }

        private void gather(Term term, int depth) {
            if (depth >= DEEPEST || count >= MOST_NODES || idOf(term) != 0) {
                return;
            }
            int at = placeOf(term);
            for (int i = count; i >= at; i--) {
                terms[i + 1] = terms[i];
            }
            terms[at] = term;
            count++;
            for (int i = 0; i < term.parts.length; i++) {
                gather(term.parts[i], depth + 1);
            }
        }

        /** The least number whose TERM does not stand ahead of this one. */
        private int placeOf(Term term) {
            int low = 1;
            int high = count + 1;
            while (low < high) {
                int middle = low + high >> 1;
                if (Term.compare(terms[middle], term, 0) < 0) {
                    low = middle + 1;
                } else {
                    high = middle;
                }
            }
            return low;
        }

        /** 0: it is not there. */
        private int idOf(Term term) {
            int at = placeOf(term);
            return at <= count && Term.compare(terms[at], term, 0) == 0 ? at : 0;
        }

        private long valueOf(long row) {
            return Row.size(row) == 1 ? values[Row.at(row, 0)] : row;
        }

        private Term made(long value, Maker maker) {
            int mark = maker.mark();
            int size = Row.size(value);
            for (int i = 0; i < size; i++) {
                maker.push(terms[Row.at(value, i)]);
            }
            return maker.together(Row.kind(value), mark);
        }
    }

    /**
     * A PATTERN as rows of numbers. The kids of a FUNCTION are its PARTS; the kids of a SUM or PRODUCT are those with
     * VARIABLES, EQUAL ones once with how many times they stand there, while the others go into a row at once.
     */
    private static final class Pattern {
        private final Term[] terms;
        /** The number of a TERM without VARIABLES in the TERM that is matched; 0: it has VARIABLES. */
        private final int[] ids;
        private final int[] times;
        private final int[] owners;
        private final int[] firsts;
        private final int[] kids;
        private final long[] grounds;
        private int size;
        private int variables;

        private Pattern() {
            terms = new Term[MOST_NODES];
            ids = new int[MOST_NODES];
            times = new int[MOST_NODES];
            owners = new int[MOST_NODES];
            firsts = new int[MOST_NODES];
            kids = new int[MOST_NODES];
            grounds = new long[MOST_NODES];
        }

        /** False: a TERM without VARIABLES is not in the other TERM, so there are no MATCHERS. */
        private boolean takes(Term whole, Inside inside) {
            variables = whole.variables;
            size = 0;
            add(whole, 0);
            boolean fits = true;
            for (int p = 0; fits && p < size; p++) {
                fits = unfolds(p, inside);
            }
            return fits;
        }

        private void add(Term term, int owner) {
            if (size < MOST_NODES) {
                terms[size] = term;
                times[size] = 1;
                owners[size] = owner;
                size++;
            }
        }

        private boolean unfolds(int p, Inside inside) {
            Term term = terms[p];
            boolean loose = term.kind > FUNCTION;
            firsts[p] = size;
            kids[p] = 0;
            ids[p] = 0;
            grounds[p] = Row.empty(term.kind);
            if (term.variables == 0) {
                ids[p] = inside.idOf(term);
                return ids[p] != 0;
            }
            for (int i = 0; i < term.parts.length; i++) {
                Term part = term.parts[i];
                if (loose && part.variables == 0) {
                    int id = inside.idOf(part);
                    if (id == 0) {
                        return false;
                    }
                    grounds[p] = Row.with(grounds[p], id);
                } else if (loose && i > 0 && Term.compare(term.parts[i - 1], part, 0) == 0) {
                    times[size - 1]++;
                } else {
                    add(part, p);
                    kids[p]++;
                }
            }
            return true;
        }

        /** The mask keeps it below MOST_PATTERN_VARIABLES even for a VARIABLE that is not in the PATTERN. */
        private int rankOf(int variable) {
            return Integer.bitCount(variables & (1 << variable) - 1) & MOST_PATTERN_VARIABLES - 1;
        }
    }

    /**
     * The search for MATCHERS. A frame has, for each SUM and PRODUCT of the PATTERN that is being matched, which of
     * its kids are still open and the row of PARTS that is left for them, and what is put for the VARIABLES (0:
     * nothing yet). Each choice is between different TERMS, so no MATCHER is found twice.
     */
    private static final class Matching {
        /** Each choice places a kid, so the PATTERN's NODES bound the frames. */
        private static final int FRAMES = MOST_NODES + 1;
        private static final int WIDTH = MOST_PATTERN_VARIABLES;
        private final Inside inside;
        private final Pattern pattern;
        private final int[] open;
        private final long[] rests;
        private final long[] values;
        private final long[] matchers;
        private int count;

        private Matching() {
            inside = new Inside();
            pattern = new Pattern();
            open = new int[FRAMES * MOST_NODES];
            rests = new long[FRAMES * MOST_NODES];
            values = new long[FRAMES * WIDTH];
            matchers = new long[MOST_MATCHERS * WIDTH];
        }

        private boolean has(int i) {
            return i >= 0 && i < count;
        }

        private boolean inPattern(int variable) {
            return (pattern.variables >> variable & 1) != 0;
        }

        private Term put(int i, int variable, Maker maker) {
            return has(i) ? inside.made(matchers[i * WIDTH + pattern.rankOf(variable)], maker) : null;
        }

        private int found(Term whole, Term term) {
            count = 0;
            inside.take(term);
            if (!pattern.takes(whole, inside)) {
                return 0;
            }
            for (int p = 0; p < MOST_NODES; p++) {
                open[p] = 0;
            }
            for (int k = 0; k < WIDTH; k++) {
                values[k] = 0;
            }
            if (assigned(0, 0, inside.idOf(term), 0)) {
                search(0);
            }
            if (count > MOST_MATCHERS) {
                count = 0;
                return FULL;
            }
            return count;
        }

        private void search(int frame) {
            if (count > MOST_MATCHERS || frame + 1 >= FRAMES || !settled(frame)) {
                return;
            }
            int kid = choice(frame);
            if (kid < 0) {
                enlist(frame * WIDTH);
            } else if (pattern.terms[kid].kind == VARIABLE) {
                tryRows(frame, kid);
            } else {
                tryParts(frame, kid);
            }
        }

        private void tryRows(int frame, int kid) {
            long row = Row.divided(rests[frame * MOST_NODES + pattern.owners[kid]], pattern.times[kid]);
            int all = 1 << Row.size(row);
            int rank = pattern.rankOf(pattern.terms[kid].number);
            for (int bits = 1; bits < all && count <= MOST_MATCHERS; bits++) {
                long picked = Row.picked(row, bits);
                if (picked != Row.MISSING) {
                    copy(frame);
                    values[(frame + 1) * WIDTH + rank] = inside.valueOf(picked);
                    search(frame + 1);
                }
            }
        }

        private void tryParts(int frame, int kid) {
            int owner = pattern.owners[kid];
            int next = (frame + 1) * MOST_NODES + owner;
            long rest = rests[frame * MOST_NODES + owner];
            long row = Row.divided(rest, pattern.times[kid]);
            int size = Row.size(row);
            for (int i = 0; i < size && count <= MOST_MATCHERS; i++) {
                int id = Row.at(row, i);
                if ((i == 0 || id != Row.at(row, i - 1)) && alike(kid, id)) {
                    copy(frame);
                    open[next] &= ~(1 << (kid - pattern.firsts[owner]));
                    for (int n = 0; n < pattern.times[kid]; n++) {
                        rests[next] = Row.minus(rests[next], Row.with(Row.empty(0), id));
                    }
                    if (assigned(frame + 1, kid, id, 0)) {
                        search(frame + 1);
                    }
                }
            }
        }

        private void copy(int frame) {
            int nodes = frame * MOST_NODES;
            System.arraycopy(open, nodes, open, nodes + MOST_NODES, pattern.size);
            System.arraycopy(rests, nodes, rests, nodes + MOST_NODES, pattern.size);
            System.arraycopy(values, frame * WIDTH, values, (frame + 1) * WIDTH, WIDTH);
        }

        private boolean alike(int p, int id) {
            Term term = pattern.terms[p];
            Term other = inside.terms[id];
            if (other == null || term.kind != other.kind || term.number != other.number) {
                return false;
            }
            int parts = term.parts.length;
            return term.kind == FUNCTION ? parts == other.parts.length : parts <= other.parts.length;
        }

        /** Makes a PATTERN's TERM EQUAL to that of a number as far as there is no choice; false: it can't be. */
        private boolean assigned(int frame, int p, int id, int depth) {
            if (pattern.ids[p] != 0) {
                return pattern.ids[p] == id;
            }
            Term term = pattern.terms[p];
            if (term.kind == VARIABLE) {
                return bound(frame, pattern.rankOf(term.number), inside.values[id]);
            }
            if (depth >= DEEPEST || !alike(p, id)) {
                return false;
            }
            long row = inside.rows[id];
            boolean fits = true;
            if (term.kind == FUNCTION) {
                for (int i = 0; fits && i < pattern.kids[p]; i++) {
                    fits = assigned(frame, pattern.firsts[p] + i, Row.at(row, i), depth + 1);
                }
                return fits;
            }
            long rest = Row.minus(row, pattern.grounds[p]);
            rests[frame * MOST_NODES + p] = rest;
            open[frame * MOST_NODES + p] = (1 << pattern.kids[p]) - 1;
            return rest != Row.MISSING;
        }

        private boolean bound(int frame, int rank, long value) {
            int at = frame * WIDTH + rank;
            if (values[at] == 0) {
                values[at] = value;
            }
            return values[at] == value;
        }

        /** Does all that leaves no choice; false: the frame has no MATCHER. */
        private boolean settled(int frame) {
            boolean changed = true;
            // each round but the last one places a kid
            for (int round = 0; changed && round <= MOST_NODES; round++) {
                changed = false;
                for (int p = 0; p < pattern.size; p++) {
                    int before = open[frame * MOST_NODES + p];
                    if (before != 0) {
                        if (!takesBound(frame, p) || !placesLast(frame, p)) {
                            return false;
                        }
                        changed |= open[frame * MOST_NODES + p] != before;
                    }
                }
            }
            return true;
        }

        /** Takes what is put for VARIABLES out of the row that is left. */
        private boolean takesBound(int frame, int p) {
            int at = frame * MOST_NODES + p;
            for (int k = 0; k < pattern.kids[p]; k++) {
                int kid = pattern.firsts[p] + k;
                Term term = pattern.terms[kid];
                long value = term.kind == VARIABLE ? values[frame * WIDTH + pattern.rankOf(term.number)] : 0;
                if ((open[at] >> k & 1) != 0 && value != 0) {
                    for (int n = 0; n < pattern.times[kid]; n++) {
                        rests[at] = less(rests[at], value);
                        if (rests[at] == Row.MISSING) {
                            return false;
                        }
                    }
                    open[at] &= ~(1 << k);
                }
            }
            return true;
        }

        private long less(long row, long value) {
            if (Row.kind(row) == Row.kind(value)) {
                return Row.minus(row, value);
            }
            int size = Row.size(row);
            for (int i = 0; i < size; i++) {
                if (inside.values[Row.at(row, i)] == value) {
                    return Row.without(row, i);
                }
            }
            return Row.MISSING;
        }

        /** False: the row has too few PARTS, or too many. The last open kid has all that is left. */
        private boolean placesLast(int frame, int p) {
            int at = frame * MOST_NODES + p;
            int need = 0;
            int last = -1;
            boolean variable = false;
            for (int k = 0; k < pattern.kids[p]; k++) {
                if ((open[at] >> k & 1) != 0) {
                    last = pattern.firsts[p] + k;
                    need += pattern.times[last];
                    variable |= pattern.terms[last].kind == VARIABLE;
                }
            }
            int size = Row.size(rests[at]);
            if (size < need || !variable && size > need) {
                return false;
            }
            if (Integer.bitCount(open[at]) != 1) {
                return true;
            }
            open[at] = 0;
            long row = Row.divided(rests[at], pattern.times[last]);
            if (Row.size(row) * pattern.times[last] != size) {
                return false;
            }
            return variable ? bound(frame, pattern.rankOf(pattern.terms[last].number), inside.valueOf(row))
                    : assigned(frame, last, Row.at(row, 0), 0);
        }

        /** The open kid with the fewest ways to go on, or not many more; -1: none is open. */
        private int choice(int frame) {
            int best = -1;
            int fewest = 1 << MOST_PARTS;
            for (int p = 0; p < pattern.size; p++) {
                int bits = open[frame * MOST_NODES + p];
                for (int k = 0; bits != 0 && k < pattern.kids[p]; k++) {
                    int kid = pattern.firsts[p] + k;
                    if ((bits >> k & 1) != 0) {
                        int ways = ways(rests[frame * MOST_NODES + p], kid);
                        best = ways < fewest ? kid : best;
                        fewest = Math.min(ways, fewest);
                    }
                }
            }
            return best;
        }

        private int ways(long rest, int kid) {
            long row = Row.divided(rest, pattern.times[kid]);
            int size = Row.size(row);
            if (pattern.terms[kid].kind == VARIABLE) {
                return (1 << size) - 1;
            }
            int ways = 0;
            for (int i = 0; i < size; i++) {
                ways += alike(kid, Row.at(row, i)) ? 1 : 0;
            }
            return ways;
        }

        /** Puts the frame's values among the MATCHERS, by ORDER. */
        private void enlist(int from) {
            if (count >= MOST_MATCHERS) {
                count = MOST_MATCHERS + 1;
                return;
            }
            int at = count;
            while (at > 0 && isAhead(from, (at - 1) * WIDTH)) {
                System.arraycopy(matchers, (at - 1) * WIDTH, matchers, at * WIDTH, WIDTH);
                at--;
            }
            System.arraycopy(values, from, matchers, at * WIDTH, WIDTH);
            count++;
        }

        private boolean isAhead(int from, int other) {
            int compared = 0;
            for (int k = 0; compared == 0 && k < WIDTH; k++) {
                compared = Long.compare(values[from + k], matchers[other + k]);
            }
            return compared < 0;
        }
    }

    /**
     * A SYSTEM and its BASIS. The search goes by the order of SOLUTIONS, so all that could stand below one has been
     * found ahead of it.
     */
    private static final class Basis {
        private final int width;
        private final int limit;
        private final int[] numbers;
        /** For each ROW the least and the greatest NUMBER (or 0) from an UNKNOWN on. */
        private final int[] least;
        private final int[] greatest;
        private final int[] sums;
        private final int[] current;
        private final int[] solutions;
        private int rows;
        private int unknowns;
        private int span;
        private int count;

        private Basis(int mostRows, int mostUnknowns, int limit) {
            width = mostUnknowns;
            this.limit = limit;
            numbers = new int[mostRows * mostUnknowns];
            least = new int[mostRows * (mostUnknowns + 1)];
            greatest = new int[mostRows * (mostUnknowns + 1)];
            sums = new int[mostRows];
            current = new int[mostUnknowns];
            solutions = new int[limit * mostUnknowns];
            rows = 1;
            unknowns = 1;
        }

        private void begin(int newRows, int newUnknowns) {
            rows = Math.max(0, Math.min(newRows, sums.length));
            unknowns = Math.max(0, Math.min(newUnknowns, width));
            count = 0;
            for (int i = 0; i < numbers.length; i++) {
                numbers[i] = 0;
            }
        }

        private boolean hasNumber(int row, int unknown) {
            return row >= 0 && row < rows && unknown >= 0 && unknown < unknowns;
        }

        private int changed(int row, int unknown, int v) {
            int before = numbers[row * width + unknown];
            numbers[row * width + unknown] = v;
            count = 0;
            return before;
        }

        private boolean has(int i, int j) {
            return i >= 0 && i < count && j >= 0 && j < unknowns;
        }

        private int given(int i, int j) {
            return solutions[i * width + j];
        }

        private int found(int newSpan) {
            count = 0;
            span = newSpan;
            for (int row = 0; row < rows; row++) {
                sums[row] = 0;
                findBounds(row);
            }
            for (int k = 0; k < width; k++) {
                current[k] = 0;
            }
            search(0, span);
            if (count > limit) {
                count = 0;
                return FULL;
            }
            return count;
        }

        private void findBounds(int row) {
            int at = row * (width + 1) + unknowns;
            least[at] = 0;
            greatest[at] = 0;
            for (int k = unknowns - 1; k >= 0; k--) {
                int v = numbers[row * width + k];
                at--;
                least[at] = Math.min(v, least[at + 1]);
                greatest[at] = Math.max(v, greatest[at + 1]);
            }
        }

        private void search(int k, int left) {
            if (k >= unknowns) {
                if (left < span) {
                    keep();
                }
                return;
            }
            boolean above = false;
            for (int v = 0; !above && v <= left && count <= limit; v++) {
                if (v > 0) {
                    change(k, 1);
                }
                if (canEnd(k + 1, left - v)) {
                    above = v > 0 && isAboveOne();
                    if (!above) {
                        search(k + 1, left - v);
                    }
                }
            }
            change(k, -current[k]);
        }

        private void change(int k, int by) {
            current[k] += by;
            for (int row = 0; row < rows; row++) {
                sums[row] += by * numbers[row * width + k];
            }
        }

        /** Whether each ROW may yet come to 0; behind the last UNKNOWN, whether it is 0. */
        private boolean canEnd(int k, int left) {
            boolean can = true;
            for (int row = 0; can && row < rows; row++) {
                int at = row * (width + 1) + k;
                can = sums[row] + left * least[at] <= 0 && sums[row] + left * greatest[at] >= 0;
            }
            return can;
        }

        private boolean isAboveOne() {
            boolean above = false;
            for (int i = 0; !above && i < count && i < limit; i++) {
                above = true;
                for (int k = 0; above && k < unknowns; k++) {
                    above = solutions[i * width + k] <= current[k];
                }
            }
            return above;
        }

        private void keep() {
            if (count < limit) {
                System.arraycopy(current, 0, solutions, count * width, unknowns);
            }
            count++;
        }
    }

    /** The latest UNIFIERS. They are counted, not listed: there may be 65,535. */
    private static final class Unifying {
        private static final int FREE = -1, USELESS = -2;
        private final Basis basis;
        /** First the VARIABLES, then the GROUND ones, as ORDER has it. */
        private final Term[] terms;
        private final int[] numbers;
        /** For each BASE the bits of the VARIABLES that it gives something to. */
        private final int[] covers;
        /** For each BASE the GROUND UNKNOWN that it gives 1 to, or FREE, or USELESS. */
        private final int[] grounds;
        private final int[] choices;
        private int kind;
        private int unknowns;
        private int variables;
        private int usable;
        private int unifiers;

        private Unifying() {
            basis = new Basis(1, MOST_UNIFY_UNKNOWNS, MOST_BASES);
            terms = new Term[MOST_UNIFY_UNKNOWNS];
            numbers = new int[MOST_UNIFY_UNKNOWNS];
            covers = new int[MOST_BASES];
            grounds = new int[MOST_BASES];
            choices = new int[MOST_UNIFY_UNKNOWNS];
        }

        private static boolean takes(Term term, int kind) {
            if (term.variables >> FIRST_NEW != 0) {
                return false;
            }
            if (term.kind != kind) {
                return isUnknown(term);
            }
            boolean all = true;
            for (int i = 0; all && i < term.parts.length; i++) {
                all = isUnknown(term.parts[i]);
            }
            return all;
        }

        private static boolean isUnknown(Term part) {
            return part.kind == VARIABLE || part.variables == 0;
        }

        /**
         * If nothing is left, the empty SET is GOOD; if one side is empty, there is no BASE and so no GOOD SET: these
         * cases need no words of their own.
         */
        private int found(Term left, Term right, int newKind) {
            kind = newKind;
            unifiers = 0;
            unknowns = 0;
            tally(left, 1);
            tally(right, -1);
            dropEqual();
            basis.begin(1, unknowns);
            int most = 0;
            int least = 0;
            for (int j = 0; j < unknowns; j++) {
                basis.changed(0, j, numbers[j]);
                most = Math.max(most, numbers[j]);
                least = Math.min(least, numbers[j]);
            }
            // Lambert's bound: a least SOLUTION of one ROW gives to the UNKNOWNS of one side together no more than
            // the greatest NUMBER of the other side
            if (basis.found(most - least) == FULL) {
                return FULL;
            }
            sortBases();
            unifiers = goodSets(basis.count, 0);
            return unifiers;
        }

        private void tally(Term term, int by) {
            if (term.kind != kind) {
                tallyPart(term, by);
                return;
            }
            for (int i = 0; i < term.parts.length; i++) {
                tallyPart(term.parts[i], by);
            }
        }

        private void tallyPart(Term part, int by) {
            int at = 0;
            while (at < unknowns && Term.compare(terms[at], part, 0) < 0) {
                at++;
            }
            if (at < unknowns && Term.compare(terms[at], part, 0) == 0) {
                numbers[at] += by;
                return;
            }
            if (unknowns >= MOST_UNIFY_UNKNOWNS) {
                return;
            }
            for (int j = unknowns; j > at; j--) {
                terms[j] = terms[j - 1];
                numbers[j] = numbers[j - 1];
            }
            terms[at] = part;
            numbers[at] = by;
            unknowns++;
        }

        private void dropEqual() {
            int left = 0;
            variables = 0;
            for (int j = 0; j < unknowns; j++) {
                if (numbers[j] != 0) {
                    terms[left] = terms[j];
                    numbers[left] = numbers[j];
                    left++;
                    variables += terms[j].kind == VARIABLE ? 1 : 0;
                }
            }
            unknowns = left;
        }

        private void sortBases() {
            usable = 0;
            for (int b = 0; b < basis.count; b++) {
                covers[b] = 0;
                grounds[b] = FREE;
                for (int j = 0; j < unknowns; j++) {
                    int given = basis.given(b, j);
                    if (j < variables) {
                        covers[b] |= given > 0 ? 1 << j : 0;
                    } else if (given > 0) {
                        grounds[b] = given == 1 && grounds[b] == FREE ? j : USELESS;
                    }
                }
                usable += grounds[b] == USELESS ? 0 : 1;
            }
        }

        /** How many GOOD SETS have, of the BASES from one on, just the chosen ones. */
        private int goodSets(int from, int chosen) {
            int bare = (1 << variables) - 1;
            int lacking = (1 << unknowns) - 1 & ~bare;
            for (int b = from; b < basis.count; b++) {
                if ((chosen >> b & 1) != 0) {
                    int ground = grounds[b];
                    if (ground == USELESS || ground >= 0 && (lacking >> ground & 1) == 0) {
                        return 0;
                    }
                    bare &= ~covers[b];
                    lacking &= ground >= 0 ? ~(1 << ground) : -1;
                }
            }
            // all SETS, less those that leave a VARIABLE bare, and those that leave two bare once again, and so on
            int sets = 0;
            for (int out = 0; out <= bare; out++) {
                if ((out & ~bare) == 0) {
                    int ways = waysWithout(from, out, lacking);
                    sets += (Integer.bitCount(out) & 1) == 0 ? ways : -ways;
                }
            }
            return sets;
        }

        /** Ways to choose of the BASES ahead of one, so that some VARIABLES get nothing and each that is lacking 1. */
        private int waysWithout(int from, int out, int lacking) {
            for (int j = 0; j < unknowns; j++) {
                choices[j] = 0;
            }
            int ways = 1;
            for (int b = 0; b < from; b++) {
                if ((covers[b] & out) == 0) {
                    if (grounds[b] == FREE) {
                        ways *= 2;
                    } else if (grounds[b] >= 0) {
                        choices[grounds[b]]++;
                    }
                }
            }
            for (int j = variables; j < unknowns; j++) {
                ways *= (lacking >> j & 1) != 0 ? choices[j] : 1;
            }
            return ways;
        }

        private int bitsOf(int i) {
            int bits = 0;
            int behind = i;
            for (int b = basis.count - 1; b >= 0; b--) {
                int without = goodSets(b, bits);
                if (behind >= without) {
                    behind -= without;
                    bits |= 1 << b;
                }
            }
            return bits;
        }

        private void fill(Term[] puts, int i, Maker maker) {
            for (int v = 0; v < puts.length; v++) {
                puts[v] = maker.variable(v);
            }
            int bits = bitsOf(i);
            for (int j = 0; j < variables; j++) {
                int variable = terms[j].number;
                if (variable < puts.length) {
                    puts[variable] = put(j, bits, maker);
                }
            }
        }

        /** What stands for an UNKNOWN; null if it is FULL, which counts only where the VARIABLE stands. */
        private Term put(int j, int bits, Maker maker) {
            int mark = maker.mark();
            int room = MOST_PARTS + 1;
            for (int b = 0; b < basis.count; b++) {
                int often = (bits >> b & 1) != 0 ? basis.given(b, j) : 0;
                for (int n = 0; n < often && room > 0; n++) {
                    maker.push(grounds[b] >= 0 ? terms[grounds[b]] : maker.variable(FIRST_NEW + b));
                    room--;
                }
            }
            return maker.together(kind, mark);
        }
    }
}
