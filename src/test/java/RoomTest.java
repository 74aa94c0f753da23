import java.lang.management.ManagementFactory;

/**
 * What 512 calls may make: 600,000 objects and arrays, 7.3 million fields and elements. An object has 16 bytes at
 * least, a field or element 1 at least: so it is enough if all the bytes stay below 7.3 million.
 */
public final class RoomTest {
    private static final long ROOM = 7_300_000;
    private static final int CALLS = 512;
    private static final com.sun.management.ThreadMXBean THREADS =
            (com.sun.management.ThreadMXBean) ManagementFactory.getThreadMXBean();

    private interface Call {
        void on(Run run);
    }

    public static void main(String[] args) {
        String products = "a*a*a*a+".repeat(7) + "a*a*a";
        String functions = "f(f(a),g(b),h(c))+f(f(a),g(b),h(c))+f(f(a),g(b),h(c))+f(f(a))";
        long[] packed = new long[8];
        for (int i = 0; i < 8; i++) {
            packed[i] = Run.packed((functions + " ".repeat(8)).substring(8 * i, 8 * i + 8));
        }
        room("a new object", run -> new AcTerms(), 1);
        room("read", run -> {
            for (long w : packed) {
                run.terms.type(w, 8);
            }
            run.terms.read(0);
        }, CALLS);
        room("join", run -> run.terms.join(5, 5, 0, 7), CALLS);
        room("match", run -> run.terms.match(1, 2), CALLS);
        room("match that ends nowhere", run -> run.terms.match(1, 4), 2);
        room("instance", run -> run.terms.instance(0, 6, 7), CALLS);
        room("solve", run -> run.terms.solve(16), CALLS);
        room("unify", run -> run.terms.unify(8, 9, 0), CALLS);
        room("unified", run -> run.terms.unified(3, 10, 7), CALLS);
        room("print", run -> run.terms.print(3), CALLS);
        Run run = made();
        Run.due("read of " + products, run.read(products, 0), 40);
        Run.end();
    }

    private static Run made() {
        Run run = new Run();
        run.read("f(u+v+w+x,x+u+v+w)", 1);
        run.read("f(a+a+b,a+a+b)", 2);
        run.read("a*a*a*a+".repeat(7) + "a*a*a", 3);
        run.read("f(a+b+c+d+e+f(a)+f(b)+f(c),a+b+c+d+e+f(a)+f(b)+f(d))", 4);
        run.read("f(f(a),g(b),h(c))+b*c", 5);
        run.read("f(x)*f(y)*f(x)*f(y)*f(x)*f(y)*f(x)*f(y)", 6);
        run.read("f(x,y)", 11);
        run.read("f(a,b+c)", 12);
        run.terms.match(11, 12);
        run.terms.system(1, 6);
        int[] row = {9, 8, 7, -9, -8, -7};
        for (int k = 0; k < 6; k++) {
            run.terms.number(0, k, row[k]);
        }
        run.read("u+v", 8);
        run.read("w+x+y+z+a+b", 9);
        run.terms.unify(8, 9, 0);
        run.read("f(u)*f(v)*f(w)*f(x)*g(y,z)*h(u,v,w)", 10);
        return run;
    }

    private static void room(String what, Call call, int times) {
        Run run = made();
        call.on(run);
        long id = Thread.currentThread().getId();
        long before = THREADS.getThreadAllocatedBytes(id);
        for (int i = 0; i < times; i++) {
            call.on(run);
        }
        long bytes = THREADS.getThreadAllocatedBytes(id) - before;
        System.out.println(what + ": " + bytes + " bytes by " + times + " calls");
        Run.due(what + " stays in the room", bytes < ROOM ? 1 : 0, 1);
    }
}
