/** Promises 16 to 19: resources, modes and running; and the terms of Running. */
public final class RunningTest {
    private static final Check check = new Check("RunningTest");
    private static final Class<IllegalArgumentException> ARGUMENT = IllegalArgumentException.class;
    private static final Class<IllegalStateException> STATE = IllegalStateException.class;
    private static final Class<IndexOutOfBoundsException> INDEX = IndexOutOfBoundsException.class;
    private static final int A = 0, B = 1, C = 2, D = 3, E = 4, F = 5;

    public static void main(String[] args) {
        setInput();
        seed();
        lastBits();
        draws();
        mode();
        runByNeed();
        runByHand();
        runAtOnce();
        lookedAtAgain();
        staleByCode();
        staleByReads();
        staleOverOthers();
        staleWrong();
        functionsOfOneRun();
        passedOnFunctions();
        whicheverCell();
        unreadable();
        errorsAheadOfSteps();
        whatFunctionsKeep();
        steps();
        inputsInFunctions();
        check.end();
    }

    private static void setInput() {
        Cellbrook x = Check.notebook(Cellbrook.AT_ONCE, "a = (+ i0 1)", "b = (+ i3 a)", "c = 5");
        check.same("16: what it was", x.setInput(0, 41), 0);
        check.same("16: behind it all is run", x.value(0, A), 42);
        check.same("16: behind it all is run", x.value(1, B), 42);
        check.same("16: what it was", x.setInput(0, Long.MIN_VALUE), 41);
        check.same("16: what it was", x.setInput(0, 7), Long.MIN_VALUE);
        check.same("16: what it was", x.setInput(3, Long.MAX_VALUE), 0);
        check.same("16: value", x.value(1, B), Long.MAX_VALUE + 8);
        int runs = x.runs(1);
        x.setInput(1, 5);
        x.setInput(2, 5);
        x.setInput(3, Long.MAX_VALUE);
        check.same("16: another one, or the same again: no run", x.runs(1), runs);
        check.same("16: no run of a cell without it", x.runs(2), 2);
        check.refused("16: no such input", x, INDEX, () -> x.setInput(-1, 0));
        check.refused("16: no such input", x, INDEX, () -> x.setInput(4, 0));
        check.refused("16: no such input", x, INDEX, () -> x.setInput(Integer.MAX_VALUE, 0));
        check.same("16: each for itself", x.setInput(1, 0), 5);
        check.same("16: each for itself", x.setInput(2, 0), 5);
    }

    private static void seed() {
        Cellbrook x = Check.notebook(Cellbrook.AT_ONCE, "a = (draw 1000)", "b = (+ a 1)", "c = (if 0 (draw 5) 1)", "d = 1");
        check.same("17: seed 0", x.value(0, A), ExprsTest.drawn(0, 0, 1, 1000));
        check.same("17: what it was", x.seed(77), 0);
        check.same("17: seed 77", x.value(0, A), ExprsTest.drawn(77, 0, 1, 1000));
        check.same("17: what reads it", x.value(1, B), ExprsTest.drawn(77, 0, 1, 1000) + 1);
        check.same("17: a draw that is in it, found or not", x.runs(2), 3);
        check.same("17: without one", x.runs(3), 2);
        check.same("17: what it was", x.seed(77), 77);
        check.same("17: the same is no other one", x.runs(0), 3);
        check.same("17: what it was", x.seed(Integer.MIN_VALUE), 77);
        check.same("17: overflow", x.value(0, A), ExprsTest.drawn(Integer.MIN_VALUE, 0, 1, 1000));
        check.same("17: what it was", x.seed(Integer.MAX_VALUE), Integer.MIN_VALUE);
        check.same("17: overflow", x.value(0, A), ExprsTest.drawn(Integer.MAX_VALUE, 0, 1, 1000));
    }

    /** Seeds with which the last bits of the document's numbers tell. */
    private static void lastBits() {
        Cellbrook x = Check.notebook(Cellbrook.AT_ONCE, "a = (draw 65536)", "b = (if 1 2 (draw 3))");
        int found = 0;
        for (int seed = 0; seed < 1_000_000 && found < 20; seed++) {
            int state = (seed * 31 + 1) * 1664525 + 1013904223;
            if ((state & 0xFFFF) == 0 || (state & 0xFFFF) == 0xFFFF) {
                found++;
                x.seed(seed);
                check.same("17: seed " + seed, x.value(0, A), state >>> 16);
                check.same("17: a draw that is in it, behind all", x.runs(1), found + 2);
            }
        }
        check.same("17: seeds", found, 20);
    }

    private static void draws() {
        Cellbrook x = Check.notebook(Cellbrook.BY_HAND, "a = (draw 5000); b = (+ a 0); c = (draw 5000)",
            "d = (draw 5000)", "e = (fn n (draw n))", "f = (+ (call e 5000) (* 10000 (call e 5000)))");
        x.seed(-3);
        for (int cell = 0; cell < 4; cell++) {
            x.run(cell);
        }
        check.same("draws of one run", x.value(0, A), ExprsTest.drawn(-3, 0, 1, 5000));
        check.same("draws go on in the next definition", x.value(0, C), ExprsTest.drawn(-3, 0, 2, 5000));
        check.same("draws of another cell", x.value(1, D), ExprsTest.drawn(-3, 1, 1, 5000));
        check.same("draws of the cell that is run, in a function of another one", x.value(3, F),
            ExprsTest.drawn(-3, 3, 1, 5000) + 10000 * ExprsTest.drawn(-3, 3, 2, 5000));
        x.run(0);
        check.same("draws begin anew with each run", x.value(0, A), ExprsTest.drawn(-3, 0, 1, 5000));
        x.seed(9);
        check.yes("a draw in it", x.isStale(0) && x.isStale(1) && x.isStale(2));
        check.yes("what it reads is stale", x.isStale(3));
        x.run(2);
        check.yes("a function of another run", x.isStale(3));
        // No draw is in the code of cell 3 itself, so without a new run of cell 2 the seed is nothing to it.
        check.same("run", x.run(3), 1);
        check.same("by the new seed", x.value(3, F),
            ExprsTest.drawn(9, 3, 1, 5000) + 10000 * ExprsTest.drawn(9, 3, 2, 5000));
    }

    private static void mode() {
        Cellbrook x = Check.notebook(Cellbrook.BY_HAND, "a = i0", "b = a");
        check.same("18: the mode before", x.mode(Cellbrook.BY_NEED), Cellbrook.BY_HAND);
        check.same("18: nothing is run by need", x.error(0), Cellbrook.NONE);
        check.refused("18: out of range", x, ARGUMENT, () -> x.mode(-1));
        check.refused("18: out of range", x, ARGUMENT, () -> x.mode(3));
        check.refused("18: out of range", x, ARGUMENT, () -> x.mode(Integer.MIN_VALUE));
        check.same("18: the mode before", x.mode(Cellbrook.BY_NEED), Cellbrook.BY_NEED);
        check.same("18: the mode before", x.mode(Cellbrook.AT_ONCE), Cellbrook.BY_NEED);
        check.same("18: all are run behind it", x.error(1), 0);
        check.same("18: once", x.runs(0), 1);
        check.same("18: once", x.runs(1), 1);
        check.same("18: the mode before", x.mode(Cellbrook.AT_ONCE), Cellbrook.AT_ONCE);
        check.same("18: not again", x.runs(1), 1);
        check.same("18: the mode before", x.mode(Cellbrook.BY_HAND), Cellbrook.AT_ONCE);
        x.setInput(0, 4);
        check.same("18: by hand nothing is run", x.value(1, B), 0);
        check.same("18: the mode before", x.mode(Cellbrook.AT_ONCE), Cellbrook.BY_HAND);
        check.same("18: all stale ones are run", x.value(1, B), 4);
    }

    private static void runByNeed() {
        Cellbrook x = Check.notebook(Cellbrook.BY_NEED, "c = (+ a b)", "b = (* a 2)", "a = i0", "d = c", "e = 1");
        check.same("19: those it needs, and it", x.run(0), 3);
        check.same("19: not the others", x.error(3), Cellbrook.NONE);
        check.same("19: not the others", x.error(4), Cellbrook.NONE);
        check.same("19: nothing is stale", x.run(0), 0);
        check.same("19: nothing is stale", x.run(1), 0);
        x.setInput(0, 5);
        check.same("19: one that it needs alone", x.run(1), 2);
        check.same("19: value", x.value(1, B), 10);
        check.same("19: not those that need it", x.value(0, C), 0);
        check.same("19: the rest", x.run(3), 2);
        check.same("19: value", x.value(3, D), 15);
        check.same("19: without needs", x.run(4), 1);
        check.refused("19: no such cell", x, INDEX, () -> x.run(-1));
        check.refused("19: no such cell", x, INDEX, () -> x.run(5));
        check.refused("19: no such cell", x, INDEX, () -> x.run(12));
        Check.define(x, 2, 'a', "c");
        check.same("19: wrong ones are not run, but have it as their error", x.run(3), 1);
        check.same("19: all in the ring", x.error(0) * 100 + x.error(1) * 10 + x.error(2), 222);
        check.same("19: what reads them", x.error(3), 5);
        check.same("19: again", x.run(3), 0);
        check.same("19: a wrong one by itself", x.run(0), 0);
    }

    private static void runByHand() {
        Cellbrook x = Check.notebook(Cellbrook.BY_HAND, "a = i0", "b = (+ a 1)", "c = c");
        check.same("19: alone", x.run(1), 1);
        check.same("19: what it reads was never run", x.error(1), 5);
        check.same("19: that one still not", x.error(0), Cellbrook.NONE);
        check.same("19: run", x.run(0), 1);
        check.yes("19: it can be read now", x.isStale(1));
        check.same("19: run", x.run(1), 1);
        check.same("19: value", x.value(1, B), 1);
        check.same("19: even if it is not stale", x.run(1), 1);
        check.same("19: runs", x.runs(1), 3);
        x.setInput(0, 9);
        check.same("19: whatever is stale", x.run(1), 1);
        check.same("19: what is kept of the stale one", x.value(1, B), 1);
        check.yes("19: it is stale as that one is", x.isStale(1));
        check.same("19: a wrong one is not run", x.run(2), 0);
        check.same("19: but that is its error", x.error(2), 2);
        check.same("19: being wrong is no run", x.runs(2), 0);
        check.refused("19: no such cell", x, INDEX, () -> x.run(3));
    }

    private static void runAtOnce() {
        Cellbrook x = Check.notebook(Cellbrook.AT_ONCE, "a = i0", "b = a", "c = c");
        check.same("19: it finds none there", x.run(0), 0);
        check.same("19: it finds none there", x.run(1), 0);
        check.same("19: it finds none there", x.run(2), 0);
        check.refused("19: no such cell", x, INDEX, () -> x.run(3));
        // Cell 0 needs cell 3 then: by numbers alone it would be run too early.
        x.cell();
        Check.define(x, 3, 'd', "3");
        Check.define(x, 0, 'a', "(* d i0)");
        int runs = x.runs(1);
        x.setInput(0, 2);
        check.same("those that they need first", x.value(1, B), 6);
        check.same("each once", x.runs(1), runs + 1);
    }

    private static void lookedAtAgain() {
        Cellbrook x = Check.notebook(Cellbrook.BY_NEED, "a = (* i0 i0)", "b = (+ a 1)", "c = (+ b a)", "d = (+ b i0)");
        x.setInput(0, 3);
        check.same("all", x.run(2) + x.run(3), 4);
        x.setInput(0, -3);
        check.yes("stale, as a needed one is", x.isStale(1) && x.isStale(2) && x.isStale(3));
        check.same("looked at again: not run", x.run(2), 1);
        check.no("not stale any more", x.isStale(1) || x.isStale(2));
        check.yes("by its own input", x.isStale(3));
        check.same("that one is run", x.run(3), 1);
        check.same("runs", x.runs(1), 1);
        check.same("runs", x.runs(3), 2);
        x.mode(Cellbrook.AT_ONCE);
        x.setInput(0, 3);
        check.same("at once as well: not run", x.runs(1), 1);
        check.same("at once as well: not run", x.runs(2), 1);
        check.same("at once: run", x.runs(0), 3);
        check.same("at once: run", x.value(3, D), 13);
        x.setInput(0, 4);
        check.same("another number", x.runs(2), 2);
    }

    private static void staleByCode() {
        Cellbrook x = Check.notebook(Cellbrook.BY_HAND, "a = (+ 1 (* i0 2)); b = 2", "c = (+ a b)", "");
        check.yes("never run", x.isStale(0) && x.isStale(1) && x.isStale(2));
        x.run(0);
        x.run(1);
        x.run(2);
        check.no("run", x.isStale(0) || x.isStale(1) || x.isStale(2));
        Check.define(x, 0, 'a', "(+ 1 (* i0 2))");
        check.no("the same code again", x.isStale(0));
        Check.define(x, 0, 'a', "(+ 1 (* i0 3))");
        check.yes("another number in it", x.isStale(0));
        check.yes("what it reads is stale", x.isStale(1));
        check.same("what is kept stays", x.value(0, A), 1);
        Check.define(x, 0, 'a', "(+ 1 (* i0 2))");
        check.no("back again", x.isStale(0) || x.isStale(1));
        x.drop(0, A);
        check.yes("a definition less", x.isStale(0));
        Check.define(x, 0, 'a', "(+ 1 (* i0 2))");
        check.yes("another order", x.isStale(0));
        x.drop(0, B);
        Check.define(x, 0, 'b', "2");
        check.no("the same order", x.isStale(0));
        Check.define(x, 2, 'd', "1");
        check.yes("a definition more", x.isStale(2));
        x.setInput(0, 1);
        check.yes("an input in it", x.isStale(0));
        x.setInput(0, 0);
        check.no("the same input again", x.isStale(0));
        x.setInput(1, 1);
        x.seed(5);
        check.no("an input that is not in it, nor a draw", x.isStale(0));
    }

    private static void staleByReads() {
        Cellbrook x = Check.notebook(Cellbrook.BY_HAND, "a = i0; b = i1", "c = a");
        x.run(0);
        x.run(1);
        x.setInput(0, 5);
        x.run(0);
        check.yes("another number", x.isStale(1));
        x.setInput(0, 0);
        x.run(0);
        check.no("the same number again, of another run", x.isStale(1));
        x.setInput(1, 5);
        check.yes("the cell that it reads is stale", x.isStale(1));
        x.run(0);
        check.no("each name counts by itself: it reads a alone", x.isStale(1));
        Check.define(x, 0, 'a', "(fn d d)");
        x.run(0);
        check.yes("a function in place of a number", x.isStale(1));
        x.run(1);
        check.same("a function", x.kind(1, C), Cellbrook.FUNCTION);
        Check.define(x, 0, 'a', "(draw 0)");
        x.run(0);
        check.yes("it can't be read", x.isStale(1));
    }

    private static void staleOverOthers() {
        Cellbrook x = Check.notebook(Cellbrook.BY_HAND, "a = i0", "b = (* a 0)", "c = b", "d = c", "e = 1");
        for (int cell = 0; cell < 5; cell++) {
            x.run(cell);
        }
        x.setInput(0, 1);
        check.yes("over others", x.isStale(3));
        check.no("not over others", x.isStale(4));
        x.run(0);
        check.yes("b reads another number", x.isStale(1));
        check.yes("over b", x.isStale(3));
        x.run(1);
        check.no("b is the same", x.isStale(2) || x.isStale(3));
        Check.define(x, 0, 'a', "a");
        check.yes("a wrong one that has not that error yet is stale", x.isStale(0));
        check.yes("one that reads it: what it has read can't be read", x.isStale(1));
        check.yes("over others", x.isStale(3));
    }

    private static void staleWrong() {
        Cellbrook x = Check.notebook(Cellbrook.BY_HAND, "a = b", "c = a");
        check.yes("that is not its error yet", x.isStale(0));
        x.run(0);
        check.no("that is its error", x.isStale(0));
        check.same("undefined", x.error(0), 3);
        x.setInput(0, 1);
        Check.define(x, 0, 'a', "(+ b i0)");
        check.no("another code, but the same error", x.isStale(0));
        x.run(1);
        check.same("it can't be read", x.error(1), 5);
        Check.define(x, 0, 'b', "1");
        check.yes("another error: it reads b, which it defines behind that", x.isStale(0));
        check.yes("it reads a stale one", x.isStale(1));
        x.run(0);
        check.same("a ring", x.error(0), 2);
        check.no("that could not be read, and can't be: the same", x.isStale(1));
        x.drop(0, B);
        x.run(0);
        x.cell();
        Check.define(x, 2, 'b', "7");
        check.yes("it has an error of 1 to 3 still", x.isStale(0));
        x.run(2);
        x.run(0);
        check.same("run", x.value(0, A), 8);
        Check.define(x, 2, 'a', "1");
        check.yes("doubled", x.isStale(0) && x.isStale(2));
        check.same("not run: what is kept stays", x.value(0, A), 8);
        x.drop(2, A);
        check.no("right again, without having been looked at", x.isStale(0) || x.isStale(2));
        Check.define(x, 2, 'a', "1");
        x.run(0);
        check.same("nothing is kept now", x.kind(0, A), Cellbrook.NOTHING);
        x.drop(2, A);
        check.yes("it has an error of 1 to 3 still", x.isStale(0));
        check.no("that one was not looked at", x.isStale(2));
    }

    private static void functionsOfOneRun() {
        Cellbrook x = Check.notebook(Cellbrook.BY_HAND, "f = (fn a (+ a 1)); g = i0", "b = (call f 1)", "c = g");
        x.run(0);
        x.run(1);
        x.run(2);
        check.no("of the same run", x.isStale(1));
        x.run(0);
        check.yes("the same code, but of another run", x.isStale(1));
        check.no("a number", x.isStale(2));
        x.run(1);
        check.no("of the same run", x.isStale(1));
        x.setInput(0, 5);
        x.mode(Cellbrook.AT_ONCE);
        check.same("at once: run again, as the function is of another run", x.runs(1), 3);
        check.same("its value", x.value(1, B), 2);
    }

    private static void passedOnFunctions() {
        Cellbrook x = Check.notebook(Cellbrook.BY_HAND, "f = (fn a (+ a 1))", "g = f; h = i0", "b = (call g 1)");
        for (int cell = 0; cell < 3; cell++) {
            x.run(cell);
        }
        check.same("passed on", x.value(2, B), 2);
        x.setInput(0, 1);
        x.run(1);
        check.no("passed on again, still the function of that run", x.isStale(2));
        x.run(0);
        check.yes("over the one that passes it on", x.isStale(2));
        x.run(1);
        check.yes("passed on, a function of another run", x.isStale(2));
    }

    private static void whicheverCell() {
        Cellbrook x = Check.notebook(Cellbrook.BY_HAND, "a = 5", "b = (+ a 1)", "c = 1");
        for (int cell = 0; cell < 3; cell++) {
            x.run(cell);
        }
        x.drop(0, A);
        Check.define(x, 2, 'a', "(+ 2 3)");
        check.yes("that one is stale", x.isStale(1));
        x.run(2);
        check.no("the same number, of another cell", x.isStale(1));
        check.yes("that one is not read any more", x.isStale(0));
        check.same("what is kept, of the code before", x.value(0, A), 5);
    }

    private static void unreadable() {
        Cellbrook x = Check.notebook(Cellbrook.BY_HAND, "a = 1", "b = a", "c = (+ a b)");
        check.same("never run", x.run(2), 1);
        check.same("never run", x.error(2), 5);
        x.run(0);
        check.yes("one of both can be read now", x.isStale(2));
        x.run(2);
        check.same("the other one can't", x.error(2), 5);
        x.run(1);
        x.run(2);
        check.same("both", x.value(2, C), 2);
        Check.define(x, 0, 'd', "(call 1 1)");
        x.run(0);
        check.same("an error", x.error(0), 4);
        check.same("nothing is kept of it", x.kind(0, A), Cellbrook.NOTHING);
        x.run(2);
        check.same("it has an error", x.error(2), 5);
        check.same("runs", x.runs(2), 4);

        Cellbrook y = Check.notebook(Cellbrook.BY_HAND, "a = 1", "b = e", "c = 1", "d = 1");
        y.run(0);
        Check.define(y, 0, 'e', "2");
        y.run(1);
        check.same("not kept, as it was not run since it defines it", y.error(1), 5);
        y.run(0);
        y.run(1);
        check.same("kept", y.value(1, B), 2);
        Check.define(y, 0, 'f', "f");
        y.run(1);
        check.same("it is wrong, though that is not its error yet", y.error(1), 5);
        check.same("it is not", y.error(0), 0);
        y.drop(0, F);
        y.run(1);
        check.same("it is right again", y.error(1), 0);
        Check.define(y, 3, 'e', "2");
        y.run(3);
        y.run(1);
        check.same("several define it", y.error(1), 5);
    }

    private static void errorsAheadOfSteps() {
        Cellbrook x = Check.notebook(Cellbrook.BY_HAND, "a = 1", "b = (call 1 1); c = a", "d = (call 1 1); e = 1");
        x.run(1);
        check.same("5 ahead of 4", x.error(1), 5);
        x.run(0);
        x.run(1);
        check.same("4", x.error(1), 4);
        x.run(2);
        check.same("4: nothing is kept", x.kind(2, E), Cellbrook.NOTHING);
        check.no("an error 4 is as it is due", x.isStale(2));
        Check.define(x, 2, 'd', "8");
        x.run(2);
        check.same("mended", x.value(2, E), 1);
        Check.define(x, 2, 'e', "(call d d)");
        x.run(2);
        check.same("4 in a later definition: nothing is kept of the first", x.kind(2, D), Cellbrook.NOTHING);
    }

    private static void whatFunctionsKeep() {
        Cellbrook x = Check.notebook(Cellbrook.BY_HAND, "a = i0", "f = (fn b (+ a b))", "c = (call f 0)");
        x.setInput(0, 10);
        for (int cell = 0; cell < 3; cell++) {
            x.run(cell);
        }
        x.setInput(0, 20);
        x.run(0);
        x.run(2);
        check.same("what it was when the function was found", x.value(2, C), 10);
        x.run(1);
        x.run(2);
        check.same("found again", x.value(2, C), 20);
        x.remove(0);
        x.run(2);
        check.same("of a cell that is wrong now", x.error(2), 5);
    }

    private static void inputsInFunctions() {
        Cellbrook x = Check.notebook(Cellbrook.BY_HAND, "f = (fn b i0)", "c = (call f 0)");
        x.run(0);
        x.run(1);
        x.setInput(0, 3);
        check.yes("the input is in the code of cell 0", x.isStale(0) && x.isStale(1));
        x.run(1);
        check.same("an input is no name: it is what it is then", x.value(1, C), 3);
    }

    /** Adds zeros, so that finding it takes that many steps, an odd number. */
    private static void putSteps(Cellbrook x, int steps) {
        x.number(1);
        for (int i = 1; i < steps; i += 2) {
            x.number(0);
            x.two(0);
        }
    }

    private static void steps() {
        // Each call of f takes 27 + 3 steps: the call, its two parts, and the body.
        Cellbrook x = Check.notebook(Cellbrook.AT_ONCE, "", "", "");
        putSteps(x, 27);
        x.function(A);
        x.define(0, F);
        String five = "f 0) (call f 0)) (call f 0)) (call f 0)) (call f 0))";
        // Five calls and four additions: 154 steps.
        Check.define(x, 1, 'b', "(+ (+ (+ (+ (call " + five);
        check.same("154 steps", x.value(1, B), 5);
        Check.define(x, 1, 'c', "(+ (+ (+ (call f 0) (call f 0)) (call f 0)) (call f 0))");
        check.same("277 steps", x.value(1, C), 4);
        putSteps(x, 23);
        x.define(1, D);
        check.same("300 steps in all definitions together", x.value(1, D), 1);
        Check.define(x, 1, 'e', "0");
        check.same("301 steps", x.error(1), 4);
        x.drop(1, E);
        check.same("300 steps", x.error(1), 0);
        x.drop(1, D);
        putSteps(x, 25);
        x.define(1, D);
        check.same("302 steps", x.error(1), 4);
        check.same("nothing is kept", x.kind(1, B), Cellbrook.NOTHING);
        check.same("another cell has its own", x.error(0), 0);

        check.same("a loop without an end", loop("(call (call g g) n)"), 4);
        check.same("a loop with one", loop("(if n (call (call g g) (- n 1)) 0)"), 0);
        check.refused("a question of it", x, STATE, () -> x.value(1, B));
    }

    private static int loop(String body) {
        Cellbrook x = Check.notebook(Cellbrook.AT_ONCE, "a = (let g (fn g (fn n " + body + ")) (call (call g g) 9))");
        return x.error(0);
    }
}
