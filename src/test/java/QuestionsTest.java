/** Promises 23 to 31: what can be asked. */
public final class QuestionsTest {
    private static final Check check = new Check("QuestionsTest");
    private static final Class<IllegalStateException> STATE = IllegalStateException.class;
    private static final Class<IndexOutOfBoundsException> INDEX = IndexOutOfBoundsException.class;
    private static final int A = 0, B = 1, C = 2, D = 3;

    public static void main(String[] args) {
        error();
        isStale();
        kind();
        value();
        valueAnew();
        anewLeavesAllAsItIs();
        errorAnew();
        reads();
        slice();
        runs();
        refused();
        check.end();
    }

    private static void error() {
        Cellbrook x = Check.notebook(Cellbrook.BY_HAND, "a = 1", "b = 1", "b = 2", "c = d", "d = c", "e = p",
            "f = (call 1 1)", "g = f");
        for (int cell = 0; cell < 8; cell++) {
            check.same("23: never run", x.error(cell), Cellbrook.NONE);
            x.run(cell);
        }
        int[] due = {0, 1, 1, 2, 2, 3, 4, 5};
        for (int cell = 0; cell < 8; cell++) {
            check.same("23: error of cell " + cell, x.error(cell), due[cell]);
        }
        Check.define(x, 5, 'e', "1");
        check.same("23: by its last run", x.error(5), 3);
        x.run(5);
        check.same("23: run", x.error(5), 0);
        Check.define(x, 0, 'a', "(+ 1 (fn a a))");
        check.same("23: by its last run", x.error(0), 0);
        x.run(0);
        check.same("23: run", x.error(0), 4);
    }

    private static void isStale() {
        Cellbrook x = Check.notebook(Cellbrook.BY_NEED, "a = i0", "b = a", "c = 1");
        check.yes("24: never run", x.isStale(0) && x.isStale(1) && x.isStale(2));
        x.run(1);
        check.no("24: run", x.isStale(0) || x.isStale(1));
        check.yes("24: never run", x.isStale(2));
        x.setInput(0, 1);
        check.yes("24: an input, and over it", x.isStale(0) && x.isStale(1));
        x.mode(Cellbrook.AT_ONCE);
        check.no("24: at once nothing is", x.isStale(0) || x.isStale(1) || x.isStale(2));
        x.setInput(0, 2);
        check.no("24: at once nothing is", x.isStale(0) || x.isStale(1) || x.isStale(2));
        Check.define(x, 0, 'a', "b");
        check.no("24: at once nothing is, wrong ones neither", x.isStale(0) || x.isStale(1));
        x.drop(0, A);
        check.no("24: at once nothing is", x.isStale(0) || x.isStale(1));
    }

    private static void kind() {
        Cellbrook x = Check.notebook(Cellbrook.BY_HAND, "a = 1; b = (fn c c); d = b", "e = (call 1 1)");
        check.same("25: never run", x.kind(0, A), Cellbrook.NOTHING);
        x.run(0);
        check.same("25: a number", x.kind(0, A), Cellbrook.NUMBER);
        check.same("25: a function", x.kind(0, B), Cellbrook.FUNCTION);
        check.same("25: did not define it", x.kind(0, C), Cellbrook.NOTHING);
        check.same("25: a function by its name", x.kind(0, D), Cellbrook.FUNCTION);
        x.run(1);
        check.same("25: an error", x.kind(1, 4), Cellbrook.NOTHING);
        Check.define(x, 0, 'p', "5");
        check.same("25: defined since it was run", x.kind(0, 15), Cellbrook.NOTHING);
        x.drop(0, A);
        check.same("25: it defined it when it was run", x.kind(0, A), Cellbrook.NUMBER);
        Check.define(x, 0, 'b', "7");
        check.same("25: as it was run", x.kind(0, B), Cellbrook.FUNCTION);
        x.run(0);
        check.same("25: run", x.kind(0, A), Cellbrook.NOTHING);
        check.same("25: run", x.kind(0, B), Cellbrook.NUMBER);
        check.same("25: run", x.kind(0, 15), Cellbrook.NUMBER);
        Check.define(x, 0, 'a', "(call 1 1)");
        x.run(0);
        check.same("25: an error", x.kind(0, B), Cellbrook.NOTHING);
    }

    private static void value() {
        Cellbrook x = Check.notebook(Cellbrook.BY_HAND, "a = -1; b = (fn c c)", "d = i0");
        check.refused("26: never run", x, STATE, () -> x.value(0, A));
        x.run(0);
        x.run(1);
        check.same("26: value", x.value(0, A), -1);
        check.same("26: value 0", x.value(1, D), 0);
        check.refused("26: a function", x, STATE, () -> x.value(0, B));
        check.refused("26: not defined", x, STATE, () -> x.value(0, C));
        check.refused("26: of another cell", x, STATE, () -> x.value(1, A));
        x.setInput(0, 5);
        check.same("26: what is kept, though stale", x.value(1, D), 0);
        x.drop(0, A);
        check.same("26: what is kept, though dropped", x.value(0, A), -1);
        x.run(0);
        check.refused("26: run", x, STATE, () -> x.value(0, A));
        Check.define(x, 1, 'd', "d");
        check.same("26: what is kept, though wrong", x.value(1, D), 0);
        x.run(1);
        check.refused("26: it has an error", x, STATE, () -> x.value(1, D));
    }

    private static void valueAnew() {
        Cellbrook x = Check.notebook(Cellbrook.BY_HAND, "c = (+ b 1); d = (fn a a)", "b = (* a 2)", "a = i0",
            "e = (draw 5000)", "f = g", "h = (call 1 1)", "i = (call d 8)");
        x.setInput(0, 10);
        check.same("27: those that are needed first", x.valueAnew(0, C), 21);
        check.same("27: value", x.valueAnew(1, B), 20);
        check.same("27: value", x.valueAnew(2, A), 10);
        check.same("27: a function is called", x.valueAnew(6, 8), 8);
        check.same("27: a function", x.valueAnew(0, D), Cellbrook.NONE);
        check.same("27: not defined", x.valueAnew(0, A), Cellbrook.NONE);
        check.same("27: wrong", x.valueAnew(4, 5), Cellbrook.NONE);
        check.same("27: an error", x.valueAnew(5, 7), Cellbrook.NONE);
        check.same("27: a draw", x.valueAnew(3, 4), ExprsTest.drawn(0, 3, 1, 5000));
        x.seed(3);
        check.same("27: by the seed that is", x.valueAnew(3, 4), ExprsTest.drawn(3, 3, 1, 5000));
        for (int cell = 0; cell < 7; cell++) {
            x.run(cell);
        }
        x.setInput(0, 30);
        check.same("27: from nothing, not from what is kept", x.valueAnew(0, C), 61);
        x.drop(2, A);
        check.same("27: by the code that is", x.valueAnew(1, B), Cellbrook.NONE);
        check.same("27: kept still", x.value(2, A), 10);
        check.same("27: dropped", x.valueAnew(2, A), Cellbrook.NONE);
        Check.define(x, 2, 'a', "-1");
        check.same("27: -1 is a number too", x.valueAnew(2, A), -1);
        check.same("27: behind it", x.valueAnew(0, C), -1);
    }

    private static void anewLeavesAllAsItIs() {
        Cellbrook x = Check.notebook(Cellbrook.BY_HAND, "f = (fn a (+ a i0))", "b = (call f 1)", "c = c");
        x.run(0);
        x.run(1);
        x.setInput(0, 5);
        check.same("27: anew", x.valueAnew(1, B), 6);
        check.same("28: anew", x.errorAnew(2), 2);
        check.same("kept", x.value(1, B), 1);
        check.same("runs", x.runs(0), 1);
        check.same("never run", x.error(2), Cellbrook.NONE);
        check.yes("stale", x.isStale(0) && x.isStale(1) && x.isStale(2));
        x.setInput(0, 0);
        check.no("the function is of the same run still", x.isStale(0) || x.isStale(1));
        x.number(1);
        x.errorAnew(0);
        check.same("the pile", x.number(2), 2);
    }

    private static void errorAnew() {
        Cellbrook x = Check.notebook(Cellbrook.BY_HAND, "a = 1", "b = 1", "b = 2", "c = d", "d = c", "e = p",
            "f = (call 1 1)", "g = f");
        int[] due = {0, 1, 1, 2, 2, 3, 4, 5};
        for (int cell = 0; cell < 8; cell++) {
            check.same("28: anew, never run", x.errorAnew(cell), due[cell]);
        }
        Check.define(x, 6, 'f', "2");
        check.same("28: mended", x.errorAnew(6), 0);
        check.same("28: mended", x.errorAnew(7), 0);
        Check.define(x, 5, 'e', "(if i0 (call 1 1) 2)");
        check.same("28: by the input", x.errorAnew(5), 0);
        x.setInput(0, 1);
        check.same("28: by the input", x.errorAnew(5), 4);
    }

    private static void reads() {
        Cellbrook x = Check.notebook(Cellbrook.BY_HAND, "", "a = 1", "b = (+ a (* c (- d (< e f))))",
            "g = (if h (let i j (+ i k)) (fn l (+ l m)))", "n = (call o (draw p))", "a = b; c = a; d = (+ c e)");
        check.same("29: nothing", x.reads(0), 0);
        check.same("29: nothing", x.reads(1), 0);
        check.same("29: two", x.reads(2), Check.names("acdef"));
        check.same("29: if, local, function", x.reads(3), Check.names("hjkm"));
        check.same("29: call, draw", x.reads(4), Check.names("op"));
        check.same("29: not what it has found ahead", x.reads(5), Check.names("be"));
        Check.define(x, 5, 'a', "d");
        check.same("29: one that it defines behind", x.reads(5), Check.names("de"));
        Check.define(x, 5, 'd', "d");
        check.same("29: one that it defines there", x.reads(5), Check.names("d"));
        x.drop(5, A);
        check.same("29: one that it defines no more", x.reads(5), Check.names("ad"));
        Check.define(x, 0, 'a', "(let a a a)");
        check.same("29: the value of a local stands outside it", x.reads(0), Check.names("a"));
        Check.define(x, 0, 'a', "(let a 1 (fn b (let c b (+ a (+ b c)))))");
        check.same("29: names of those around it", x.reads(0), 0);
        Check.define(x, 0, 'a', "(+ (let b 1 b) b)");
        check.same("29: behind the local it is free", x.reads(0), Check.names("b"));
    }

    private static void slice() {
        Cellbrook x = Check.notebook(Cellbrook.BY_HAND, "a = 1", "b = a", "c = b", "d = (+ b p)", "e = (+ d c)", "f = 1",
            "f = 2", "g = f", "h = i", "i = j", "j = (+ i a)");
        check.same("30: itself", x.slice(0), Check.set(0));
        check.same("30: one", x.slice(1), Check.set(0, 1));
        check.same("30: over others", x.slice(2), Check.set(0, 1, 2));
        check.same("30: undefined ones are none", x.slice(3), Check.set(0, 1, 3));
        check.same("30: several ways", x.slice(4), Check.set(0, 1, 2, 3, 4));
        check.same("30: all that define it", x.slice(7), Check.set(5, 6, 7));
        check.same("30: into a ring", x.slice(8), Check.set(0, 8, 9, 10));
        check.same("30: in a ring", x.slice(9), Check.set(0, 9, 10));
        check.same("30: in a ring", x.slice(10), Check.set(0, 9, 10));
        x.remove(0);
        check.same("30: not removed ones", x.slice(4), Check.set(1, 2, 3, 4));

        // A long way, against the order of the numbers and along it.
        Cellbrook y = Check.notebook(Cellbrook.BY_HAND, "a = b", "b = c", "c = d", "d = e", "e = f", "f = l", "g = 1",
            "h = g", "i = h", "j = i", "k = j", "l = k");
        check.same("30: all", y.slice(0), 4095);
        check.same("30: half of them", y.slice(11), Check.set(6, 7, 8, 9, 10, 11));
        y.mode(Cellbrook.BY_NEED);
        check.same("19: all, those needed first", y.run(0), 12);
        check.same("19: value", y.value(0, A), 1);
        check.same("27: all, those needed first", y.valueAnew(0, A), 1);
        Check.define(y, 6, 'g', "a");
        check.same("30: a ring of all", y.slice(6), 4095);
        check.same("28: a ring of all", y.errorAnew(3), 2);
    }

    private static void runs() {
        Cellbrook x = Check.notebook(Cellbrook.BY_HAND, "a = i0", "b = b", "c = (call 1 1)");
        check.same("31: never", x.runs(0), 0);
        x.run(0);
        x.run(0);
        x.setInput(0, 1);
        x.run(0);
        check.same("31: each of them", x.runs(0), 3);
        x.run(1);
        check.same("31: being wrong is no run", x.runs(1), 0);
        x.run(2);
        check.same("31: with an error is one", x.runs(2), 1);
        Check.define(x, 0, 'a', "p");
        x.run(0);
        check.same("31: being wrong is no run", x.runs(0), 3);
        x.valueAnew(0, A);
        x.errorAnew(0);
        check.same("31: anew is no run of it", x.runs(2), 1);
        x.mode(Cellbrook.AT_ONCE);
        check.same("31: not stale, not run", x.runs(2), 1);
    }

    /** Two cells, of which one was removed. */
    private static Cellbrook oneOfTwo() {
        Cellbrook x = Check.notebook(Cellbrook.AT_ONCE, "a = 1", "b = 1");
        x.remove(1);
        return x;
    }

    private static void refuses(String what, Check.Act act) {
        check.refusal(what, INDEX, QuestionsTest::oneOfTwo, act);
    }

    private static void refused() {
        for (int cell : new int[] {-1, 1, 2, 12, Integer.MIN_VALUE, Integer.MAX_VALUE}) {
            refuses("23: cell " + cell, x -> x.error(cell));
            refuses("24: cell " + cell, x -> x.isStale(cell) ? 1 : 0);
            refuses("25: cell " + cell, x -> x.kind(cell, A));
            refuses("26: cell " + cell, x -> x.value(cell, A));
            refuses("27: cell " + cell, x -> x.valueAnew(cell, A));
            refuses("28: cell " + cell, x -> x.errorAnew(cell));
            refuses("29: cell " + cell, x -> x.reads(cell));
            refuses("30: cell " + cell, x -> x.slice(cell));
            refuses("31: cell " + cell, x -> x.runs(cell));
        }
        for (int name : new int[] {-1, 16, Integer.MIN_VALUE, Integer.MAX_VALUE}) {
            refuses("25: name " + name, x -> x.kind(0, name));
            refuses("26: name " + name, x -> x.value(0, name));
            refuses("27: name " + name, x -> x.valueAnew(0, name));
        }
        refuses("26: the name comes ahead of the state", x -> x.value(0, 99));
    }
}
