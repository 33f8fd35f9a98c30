/** Promises 11 to 15: cell, define, drop, remove and rename; and what is wrong by the code. */
public final class CellsTest {
    private static final Check check = new Check("CellsTest");
    private static final Class<IllegalStateException> STATE = IllegalStateException.class;
    private static final Class<IndexOutOfBoundsException> INDEX = IndexOutOfBoundsException.class;
    private static final int A = 0, B = 1, C = 2, D = 3, E = 4, F = 5, O = 14, P = 15;

    public static void main(String[] args) {
        cell();
        define();
        defineRefused();
        drop();
        remove();
        doubled();
        rings();
        undefined();
        whichWrongFirst();
        rename();
        renameScopes();
        renameRefused();
        renameKeepsTheRest();
        check.end();
    }

    private static void cell() {
        Cellbrook x = new Cellbrook();
        for (int cell = 0; cell < 12; cell++) {
            check.same("11: cell", x.cell(), cell);
            check.same("11: run at once, as it is stale", x.runs(cell), 1);
            check.same("11: without definitions", x.error(cell), 0);
        }
        check.refused("11: there were 12", x, STATE, x::cell);
        check.same("11: remove", x.remove(5), 11);
        check.refused("11: there were 12, though one is removed", x, STATE, x::cell);

        Cellbrook y = new Cellbrook();
        y.mode(Cellbrook.BY_NEED);
        y.cell();
        check.same("11: by need it is not run yet", y.error(0), Cellbrook.NONE);
        check.same("11: by need it is not run yet", y.runs(0), 0);
        y.cell();
        y.remove(1);
        check.same("11: a number is not given again", y.cell(), 2);
        y.remove(2);
        y.remove(0);
        check.same("11: a number is not given again", y.cell(), 3);
    }

    private static void define() {
        Cellbrook x = new Cellbrook();
        x.cell();
        x.number(5);
        x.number(6);
        x.number(7);
        check.same("12: the first one", x.define(0, A), 1);
        check.same("12: by the top expr", x.value(0, A), 7);
        check.same("12: in its place", x.define(0, A), 1);
        check.same("12: in its place", x.value(0, A), 6);
        check.same("12: the exprs were taken", x.number(8), 2);
        check.same("12: behind all", x.define(0, P), 2);
        check.same("12: the exprs were taken", x.number(8), 2);
        Check.put(x, "(+ p a)");
        check.same("12: a third one", x.define(0, B), 3);
        check.same("12: it reads what is ahead of it", x.value(0, B), 14);
        check.same("12: which is no reading of another cell", x.reads(0), 0);
        Check.put(x, "(* b 2)");
        check.same("12: a fourth one", x.define(0, C), 4);
        Check.put(x, "10");
        check.same("12: its place is kept, or b would be read ahead of itself", x.define(0, A), 4);
        check.same("12: its place is kept", x.value(0, C), 36);
    }

    private static void defineRefused() {
        Cellbrook x = new Cellbrook();
        x.number(1);
        check.refused("12: no such cell", x, INDEX, () -> x.define(0, A));
        x.cell();
        check.refused("12: no such cell", x, INDEX, () -> x.define(-1, A));
        check.refused("12: no such cell", x, INDEX, () -> x.define(1, A));
        check.refused("12: no such cell", x, INDEX, () -> x.define(12, A));
        check.refused("12: no such cell", x, INDEX, () -> x.define(Integer.MIN_VALUE, A));
        check.refused("12: no such name", x, INDEX, () -> x.define(0, -1));
        check.refused("12: no such name", x, INDEX, () -> x.define(0, 16));
        check.same("12: the pile is as it was", x.number(2), 2);
        x.define(0, A);
        x.define(0, B);
        check.refused("12: the pile is empty", x, STATE, () -> x.define(0, A));
        check.refused("12: the cell comes first", x, INDEX, () -> x.define(9, A));
        check.refused("12: the name comes first", x, INDEX, () -> x.define(0, 99));
        Check.define(x, 0, 'c', "3");
        Check.define(x, 0, 'd', "4");
        x.number(5);
        check.refused("12: it has 4, none of the name", x, STATE, () -> x.define(0, E));
        check.same("12: it has 4, one of the name", x.define(0, D), 4);
        x.cell();
        x.remove(1);
        x.number(6);
        check.refused("12: a removed cell", x, INDEX, () -> x.define(1, A));
        check.same("12: the pile is as it was", x.number(7), 2);
    }

    private static void drop() {
        Cellbrook x = Check.notebook(Cellbrook.AT_ONCE, "a = 1; b = (+ a 1); c = (+ b a); d = 9", "e = 1");
        check.refused("13: not defined", x, STATE, () -> x.drop(0, E));
        check.refused("13: no such cell", x, INDEX, () -> x.drop(2, A));
        check.refused("13: no such cell", x, INDEX, () -> x.drop(-1, A));
        check.refused("13: no such name", x, INDEX, () -> x.drop(0, 16));
        check.refused("13: no such name", x, INDEX, () -> x.drop(0, -1));
        check.same("13: drop", x.drop(0, B), 3);
        check.same("13: b is read now, and nobody has it", x.error(0), 3);
        check.same("13: reads", x.reads(0), Check.names("b"));
        Check.define(x, 1, 'b', "40");
        check.same("13: the others stand in their order", x.value(0, C), 41);
        check.same("13: nothing is kept of it", x.kind(0, B), Cellbrook.NOTHING);
        check.refused("13: it is dropped already", x, STATE, () -> x.drop(0, B));
        check.same("13: the first one", x.drop(0, A), 2);
        check.same("13: the last one", x.drop(0, D), 1);
        check.same("13: the only one", x.drop(0, C), 0);
        check.same("13: it is there", x.error(0), 0);
        x.number(3);
        check.same("13: define again", x.define(0, P), 1);
        check.same("13: define again", x.value(0, P), 3);
        x.remove(0);
        check.refused("13: a removed cell", x, INDEX, () -> x.drop(0, P));
    }

    private static void remove() {
        Cellbrook x = Check.notebook(Cellbrook.AT_ONCE, "a = 1", "b = (+ a 1)", "c = (+ b 1)");
        check.refused("14: no such cell", x, INDEX, () -> x.remove(3));
        check.refused("14: no such cell", x, INDEX, () -> x.remove(-1));
        check.same("14: remove", x.remove(0), 2);
        check.refused("14: it is there no more", x, INDEX, () -> x.remove(0));
        check.refused("14: it is there no more", x, INDEX, () -> x.run(0));
        check.refused("14: it is there no more", x, INDEX, () -> x.error(0));
        check.refused("14: it is there no more", x, INDEX, () -> x.isStale(0) ? 1 : 0);
        check.refused("14: it is there no more", x, INDEX, () -> x.kind(0, 0));
        check.refused("14: it is there no more", x, INDEX, () -> x.value(0, 0));
        check.refused("14: it is there no more", x, INDEX, () -> x.valueAnew(0, 0));
        check.refused("14: it is there no more", x, INDEX, () -> x.errorAnew(0));
        check.refused("14: it is there no more", x, INDEX, () -> x.reads(0));
        check.refused("14: it is there no more", x, INDEX, () -> x.slice(0));
        check.refused("14: it is there no more", x, INDEX, () -> x.runs(0));
        check.same("14: its name is read in vain", x.error(1), 3);
        check.same("14: and so on", x.error(2), 5);
        check.same("14: what needs what", x.slice(2), Check.set(1, 2));
        check.same("14: another one", x.cell(), 3);
        Check.define(x, 3, 'a', "10");
        check.same("14: its name is free for others", x.value(2, C), 12);
        check.same("14: remove", x.remove(1), 2);
        check.same("14: remove", x.remove(3), 1);
        check.same("14: remove", x.remove(2), 0);
    }

    private static void doubled() {
        Cellbrook x = Check.notebook(Cellbrook.AT_ONCE, "a = 1; b = 2", "a = 1", "c = a", "d = b", "e = 7");
        check.same("wrong 1", x.error(0), 1);
        check.same("wrong 1", x.error(1), 1);
        check.same("wrong 1: nothing is kept", x.kind(0, B), Cellbrook.NOTHING);
        check.same("5: what several define", x.error(2), 5);
        check.same("5: what one defines that is wrong", x.error(3), 5);
        check.same("wrong 1: not the others", x.error(4), 0);
        check.same("needs both", x.slice(2), Check.set(0, 1, 2));
        check.no("not stale", x.isStale(0) || x.isStale(1) || x.isStale(2) || x.isStale(3));
        x.drop(1, A);
        check.same("mended", x.error(0), 0);
        check.same("mended", x.value(2, C), 1);
        check.same("mended", x.value(3, D), 2);
    }

    private static void rings() {
        Cellbrook x = Check.notebook(Cellbrook.AT_ONCE, "a = c", "b = a", "c = b", "d = a", "e = (fn a (call e a))",
            "f = g; g = 1", "h = 1; i = h");
        for (int cell = 0; cell < 3; cell++) {
            check.same("wrong 2, over others", x.error(cell), 2);
            check.same("its slice", x.slice(cell), Check.set(0, 1, 2));
        }
        check.same("5: it needs a ring, but is in none", x.error(3), 5);
        check.same("its slice", x.slice(3), Check.set(0, 1, 2, 3));
        check.same("wrong 2, by itself", x.error(4), 2);
        check.same("wrong 2, reads what it defines behind that", x.error(5), 2);
        check.same("reads g", x.reads(5), Check.names("g"));
        check.same("right: reads what it defines ahead of that", x.error(6), 0);
        Check.define(x, 2, 'c', "5");
        check.same("mended", x.value(3, D), 5);
        Check.define(x, 0, 'c', "1");
        check.same("wrong 1 and 2", x.error(0), 1);
    }

    private static void undefined() {
        Cellbrook x = Check.notebook(Cellbrook.AT_ONCE, "a = (if 1 2 p)", "b = (fn c (+ c o))", "c = a");
        check.same("wrong 3, though it would never be found", x.error(0), 3);
        check.same("wrong 3, in a body", x.error(1), 3);
        check.same("5", x.error(2), 5);
        check.same("no run but that without definitions", x.runs(0), 1);
        x.cell();
        Check.define(x, 3, 'p', "9");
        check.same("mended", x.value(0, A), 2);
        check.same("a run", x.runs(0), 2);
        check.same("mended", x.value(2, C), 2);
    }

    private static void whichWrongFirst() {
        Cellbrook x = Check.notebook(Cellbrook.AT_ONCE, "a = (+ a p)", "b = (+ b p)", "b = 1", "c = (+ p 1); d = c");
        check.same("2 ahead of 3", x.error(0), 2);
        check.same("1 ahead of 2 and 3", x.error(1), 1);
        check.same("1", x.error(2), 1);
        check.same("3", x.error(3), 3);
    }

    private static void rename() {
        Cellbrook x = Check.notebook(Cellbrook.AT_ONCE, "a = 1; b = (+ a (* a a))", "c = (+ a b)", "d = 4");
        check.same("15: a definition and four free names", x.rename(A, P), 5);
        check.same("15: value", x.value(0, P), 1);
        check.same("15: nothing under the old name", x.kind(0, A), Cellbrook.NOTHING);
        check.same("15: value", x.value(0, B), 2);
        check.same("15: value", x.value(1, C), 3);
        check.same("15: reads", x.reads(1), Check.names("pb"));
        check.same("15: not defined any more", x.rename(A, O), 0);
        check.same("15: its code is another one, so it was run", x.runs(0), 4);
        check.same("15: not a cell without it", x.runs(2), 2);
        check.same("15: back again", x.rename(P, A), 5);
        check.same("15: a name that is defined only", x.rename(D, P), 1);
        check.same("15: value", x.value(2, P), 4);

        Cellbrook y = Check.notebook(Cellbrook.AT_ONCE, "a = b", "c = b");
        check.same("15: a name that no cell defines", y.rename(B, P), 0);
        check.same("15: it stays", y.reads(0), Check.names("b"));
        Cellbrook z = Check.notebook(Cellbrook.AT_ONCE, "a = 1", "a = 2", "b = a");
        check.same("15: all that define it", z.rename(A, P), 3);
        check.same("15: still doubled", z.error(1), 1);
        Cellbrook w = Check.notebook(Cellbrook.AT_ONCE, "a = b; b = a");
        check.same("15: in a ring", w.rename(A, P), 2);
        check.same("15: in a ring", w.error(0), 2);
    }

    private static void renameScopes() {
        Cellbrook x = Check.notebook(Cellbrook.AT_ONCE, "a = 3", "b = (let a (+ a 1) (* a a))",
            "c = (call (fn a (+ a 1)) a)", "d = (let e a (+ e a))", "f = (fn a a)");
        check.same("15: where it is free alone", x.rename(A, P), 5);
        check.same("15: the local stays", x.value(1, B), 16);
        check.same("15: the function's name stays", x.value(2, C), 4);
        check.same("15: in the body of another local", x.value(3, D), 6);
        check.same("15: not a cell where it is bound alone", x.runs(4), 2);
        Check.define(x, 0, 'p', "5");
        check.same("15: read by its new name", x.value(1, B), 36);
        check.refused("15: the old name is in the locals still", x, STATE, () -> x.rename(P, A));
    }

    private static void renameRefused() {
        Cellbrook x = Check.notebook(Cellbrook.AT_ONCE, "a = (let c 1 c)", "b = (fn d (+ a e))", "f = (let g 1 2); h = 1");
        check.refused("15: no such name", x, INDEX, () -> x.rename(-1, A));
        check.refused("15: no such name", x, INDEX, () -> x.rename(16, A));
        check.refused("15: no such other name", x, INDEX, () -> x.rename(A, -1));
        check.refused("15: no such other name", x, INDEX, () -> x.rename(A, 16));
        check.refused("15: no such other name, both the same", x, INDEX, () -> x.rename(16, 16));
        check.refused("15: both the same", x, STATE, () -> x.rename(A, A));
        check.refused("15: both the same, in no cell", x, STATE, () -> x.rename(P, P));
        check.refused("15: the other one is defined", x, STATE, () -> x.rename(A, B));
        check.refused("15: the other one is a local, read", x, STATE, () -> x.rename(A, C));
        check.refused("15: the other one is a function's", x, STATE, () -> x.rename(A, D));
        check.refused("15: the other one is free", x, STATE, () -> x.rename(A, E));
        check.refused("15: the other one is a local, not read", x, STATE, () -> x.rename(A, Check.n('g')));
        check.refused("15: the other one is in use, though none defines the name", x, STATE, () -> x.rename(P, B));
        check.same("15: a removed cell's names are free", x.remove(2), 2);
        check.same("15: a removed cell's names are free", x.rename(A, F), 2);
        check.same("15: reads", x.reads(1), Check.names("fe"));
    }

    private static void renameKeepsTheRest() {
        Cellbrook x = Check.notebook(Cellbrook.AT_ONCE, "a = 3", "b = (+ a 1)");
        x.keep();
        x.name(A);
        x.mode(Cellbrook.BY_HAND);
        check.same("15: rename", x.rename(A, P), 2);
        check.same("15: what is kept stays", x.value(0, A), 3);
        check.same("15: what is kept stays", x.kind(0, P), Cellbrook.NOTHING);
        check.yes("15: stale", x.isStale(0) && x.isStale(1));
        check.same("15: the branch stays", x.differ(0), Check.set(0, 1));
        check.same("15: by hand, p is not kept yet", x.run(1), 1);
        check.same("15: by hand, p is not kept yet", x.error(1), 5);
        x.cell();
        x.define(2, C);
        check.same("15: the pile stays", x.reads(2), Check.names("a"));
        x.take(0, 0);
        x.take(0, 1);
        check.same("15: the branch has the old names", x.reads(1), Check.names("a"));
        check.no("15: the old code again, as it was run", x.isStale(0));
        check.yes("15: that one was run since", x.isStale(1));
    }
}
