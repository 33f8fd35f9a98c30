import java.lang.management.ManagementFactory;

/** How much a run of calls makes, and that nothing in it is too deep or without an end. */
public final class RoomTest {
    /** All calls of one run may make 7.3 million fields and elements; a field takes 4 bytes at least. */
    private static final long MOST_BYTES = 4L * 1024 * 1024;
    /** Where all that is found is to be used again. */
    private static final long FEW_BYTES = 256L * 1024;
    private static final int B = 1;
    private static final Check check = new Check("RoomTest");
    private static final com.sun.management.ThreadMXBean BEAN =
        (com.sun.management.ThreadMXBean) ManagementFactory.getThreadMXBean();

    public static void main(String[] args) {
        dearestCalls();
        functionsKeptForever();
        functionsKeptByOthers();
        muchAndLittle();
        renames();
        deepest();
        check.end();
    }

    private static long made() {
        return BEAN.getThreadAllocatedBytes(Thread.currentThread().getId());
    }

    private static void within(String what, long before, long most) {
        long bytes = made() - before;
        System.out.println("RoomTest: " + what + " made " + bytes + " bytes");
        check.yes(what + " made " + bytes + " bytes, " + most + " at most", bytes <= most);
    }

    /** A body that makes functions and locals until its steps are at an end, or nearly so. */
    private static final String BUSY =
        "(let g (fn g (fn n (if (< n 1) i0 (let h (fn h (+ h n)) (call (call g g) (- n 1)))))) (call (call g g) 16))";

    /** Twelve cells that are busy, made by 301 calls. */
    private static Cellbrook busy() {
        Cellbrook x = new Cellbrook();
        x.mode(Cellbrook.BY_HAND);
        for (int cell = 0; cell < 12; cell++) {
            x.cell();
            Check.define(x, cell, (char) ('a' + cell), BUSY);
        }
        return x;
    }

    private static void dearestCalls() {
        Cellbrook x = busy();
        x.mode(Cellbrook.AT_ONCE);
        // What the tests make themselves to put the exprs is not of interest.
        long before = made();
        for (int i = 0; i < 150; i++) {
            x.setInput(0, i);
        }
        within("12 busy cells, run at once by 150 calls,", before, FEW_BYTES);
        check.same("all were run", x.runs(11), 150);
        check.same("their number", x.value(11, 11), 149);
        Cellbrook y = busy();
        before = made();
        for (int i = 0; i < 150; i++) {
            y.valueAnew(i % 12, 0);
        }
        within("12 busy cells, run anew by 150 calls,", before, FEW_BYTES);
        before = made();
        for (int i = 0; i < 100; i++) {
            x = new Cellbrook();
        }
        check.same("a new object", x.cell(), 0);
        within("100 new objects", before, MOST_BYTES);
    }

    /** Each run keeps a function that keeps all that the run has found: what was kept before is to be used again. */
    private static void functionsKeptForever() {
        Cellbrook x = new Cellbrook();
        String body = "(let g (fn g (fn n (if (< n 1) (fn a (+ a i0))"
            + " (let o (call (call g g) (- n 1)) (fn p (call o (+ p n))))))) (call (call g g) 10))";
        for (int cell = 0; cell < 12; cell++) {
            x.cell();
            Check.define(x, cell, (char) ('a' + cell), body);
        }
        long before = made();
        for (int i = 0; i < 80; i++) {
            x.setInput(0, i);
        }
        within("12 cells that keep functions", before, FEW_BYTES);
        check.same("functions", x.kind(11, 11), Cellbrook.FUNCTION);
        Check.define(x, 11, 'p', "(call l 0)");
        check.same("what the last one finds", x.value(11, 15), 55 + 79);
        Check.define(x, 0, 'p', "(call a 0)");
        x.drop(11, 15);
        check.same("what the first one finds", x.value(0, 15), 55 + 79);
    }

    /** What is kept is not used for others, however much is found in between, and over whichever way it is reached. */
    private static void functionsKeptByOthers() {
        String chain = "(let g (fn g (fn n (if (< n 1) (fn a a) (let o (call (call g g) (- n 1))"
            + " (fn p (call o (+ p n))))))) (call (call g g) 10))";
        Cellbrook x = Check.notebook(Cellbrook.BY_HAND, "f = " + chain, "g = (let o f (fn p (call o (+ p 1000))))",
            "", "b = (+ (call f i0) (* 100000 (call g i0)))", "h = f");
        Check.define(x, 2, 'c', BUSY);
        for (int cell = 0; cell < 5; cell++) {
            x.run(cell);
        }
        // From here on the functions are reached over what g has kept alone, and h.
        Check.define(x, 0, 'f', "1");
        x.run(0);
        Check.define(x, 3, 'b', "(+ (call h i0) (* 100000 (call g i0)))");
        long before = made();
        for (int i = 1; i <= 60; i++) {
            x.setInput(0, i);
            x.run(2);
            x.run(3);
            check.same("found by kept functions", x.value(3, B), 55 + i + 100000L * (1055 + i));
        }
        within("functions kept by others", before, FEW_BYTES);
    }

    /** Runs that make much and runs that make little, in turn: whatever is free then, nothing is used twice at a time. */
    private static void muchAndLittle() {
        String loop = "(let g (fn g (fn n (if (< n 1) i0 (let h (fn h (+ h n)) (call h (call (call g g) (- n 1)))))))"
            + " (call (call g g) ";
        int[] times = {14, 9, 2, 0};
        int turn = 1;
        for (int object = 0; object < 40; object++) {
            Cellbrook x = Check.notebook(Cellbrook.BY_HAND, "a = " + loop + times[0] + "))", "b = " + loop + times[1] + "))",
                "c = " + loop + times[2] + "))", "d = " + loop + times[3] + "))");
            for (int i = 0; i < 190; i++) {
                turn = turn * 1103515245 + 12345;
                int cell = turn >>> 20 & 3;
                x.run(cell);
                check.same("run " + i, x.value(cell, cell), times[cell] * (times[cell] + 1) / 2);
            }
        }
    }

    private static void renames() {
        Cellbrook x = new Cellbrook();
        for (int cell = 0; cell < 10; cell++) {
            x.cell();
            x.name(10);
            for (int k = 0; k < 14; k++) {
                x.name(10);
                x.two(0);
            }
            x.define(cell, cell);
        }
        x.cell();
        Check.define(x, 10, 'k', "1");
        long before = made();
        for (int i = 0; i < 190; i++) {
            x.rename(i % 2 == 0 ? 10 : 11, i % 2 == 0 ? 11 : 10);
        }
        within("190 renames of 151 names", before, MOST_BYTES);
        check.same("the last one", x.value(9, 9), 15);
    }

    /** Calls that nest as deep as the steps let them, in a thread whose own calls can't nest deep. */
    private static void deepest() {
        long[] found = new long[2];
        Thread thread = new Thread(null, () -> {
            Cellbrook x = new Cellbrook();
            x.cell();
            Check.define(x, 0, 'a', "(let g (fn g (fn n (+ 1 (call (call g g) n)))) (call (call g g) 9))");
            found[0] = x.error(0);
            x.number(1);
            for (int i = 0; i < 29; i++) {
                x.function(0);
            }
            found[1] = x.define(0, 1);
            x.keep();
            x.rename(1, 2);
        }, "shallow", 160 * 1024);
        thread.start();
        try {
            thread.join();
        } catch (InterruptedException interrupted) {
            Thread.currentThread().interrupt();
        }
        check.same("too many steps, deep in calls", found[0], 4);
        check.same("an expr of 30 parts, one in the other", found[1], 2);
    }
}
