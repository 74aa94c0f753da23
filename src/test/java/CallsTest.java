import java.util.Random;

/** Runs of 512 calls with arguments of every sort, from a fixed seed: none throws, and what each leaves holds together. */
public final class CallsTest {
    private static final int[] EXTREMES = {Integer.MIN_VALUE, Integer.MAX_VALUE, -1, -2, 16, 17, 22, 50, 100, 65536};
    private static final String[] TEXTS = {"x", "y+z", "x*y", "a+b+c", "f(x)+y", "f(a)*b", "x+x+a", "h(a,x+y,b*c)",
        "a+b*(c+d)", "f(f(f(f(a))))", "u+v+w", "a+a+a+b+b", "(a+b)*(c+d)", "x+f(", "g(u,v)*g(v,u)", "A+B"};
    private final Random random;
    private final Run run = new Run();
    private final AcTerms terms = run.terms;

    private CallsTest(long seed) {
        random = new Random(seed);
    }

    public static void main(String[] args) {
        int runs = args.length > 0 ? Integer.parseInt(args[0]) : 500;
        for (int seed = 0; seed < runs; seed++) {
            CallsTest one = new CallsTest(seed);
            CallsTest again = new CallsTest(seed);
            for (int i = 0; i < 512; i++) {
                Run.due("the same call of run " + seed, again.call(), one.call());
            }
            one.holdsTogether();
        }
        Run.end();
    }

    private int argument(int below) {
        return random.nextInt(12) == 0 ? EXTREMES[random.nextInt(EXTREMES.length)] : random.nextInt(below);
    }

    private int slot() {
        return argument(8);
    }

    private int call() {
        switch (random.nextInt(24)) {
            case 0:
                return terms.type(random.nextLong(), argument(9));
            case 1:
                return terms.read(slot());
            case 2:
                return terms.told(slot(), argument(5));
            case 3:
                return terms.part(slot(), argument(4), slot());
            case 4:
                return terms.order(slot(), slot());
            case 5:
                return terms.join(slot(), slot(), argument(2), slot());
            case 6:
                return terms.print(slot());
            case 7:
                return terms.out(argument(20));
            case 8:
            case 9:
                return terms.match(slot(), slot());
            case 10:
                return terms.matched(argument(3), argument(22), slot());
            case 11:
                return terms.instance(argument(3), slot(), slot());
            case 12:
                return terms.system(argument(4), argument(7));
            case 13:
                return terms.number(argument(3), argument(6), random.nextInt(21) - 10);
            case 14:
                return terms.solve(argument(17));
            case 15:
                return terms.solution(argument(10), argument(6));
            case 16:
            case 17:
                return terms.unify(slot(), slot(), argument(2));
            case 18:
                return terms.bases(argument(3));
            case 19:
                return terms.base(argument(4), argument(4));
            case 20:
                return terms.set(argument(10));
            case 21:
                return terms.unified(argument(4), slot(), slot());
            default:
                return run.read(TEXTS[random.nextInt(TEXTS.length)], random.nextInt(8));
        }
    }

    /** Each TERM can be printed, and read again where THE TEXT has room for it. */
    private void holdsTogether() {
        terms.read(15);
        for (int slot = 0; slot < 8; slot++) {
            int nodes = terms.told(slot, 3);
            if (nodes > 0) {
                Run.due("NODES", nodes <= 40 ? 1 : 0, 1);
                String text = run.printed(slot);
                Run.due("it is in the one form", Plain.fault(text) < 0 ? Plain.read(text).toString() : text, text);
                if (text.length() <= 64 && Plain.fault(text) < 0) {
                    Run.due("read again", run.read(text, 15), nodes);
                    Run.due("EQUAL", terms.order(slot, 15), 0);
                }
            }
        }
    }
}
