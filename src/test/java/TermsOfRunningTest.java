/** The sentences of the document's "Running", each with a test of its own. */
public final class TermsOfRunningTest {
    private static final Check check = new Check("TermsOfRunningTest");
    private static final Document document = new Document(check);
    private static final int A = 0, B = 1, C = 2, D = 3, E = 4;
    private static final int INT_MAX = 2147483647;

    public static void main(String[] args) {
        readsFirst();
        whatAFreeNameIs();
        functionsKeep();
        impossible();
        steps();
        stepsOfAllDefinitions();
        unreadable();
        unreadableAheadOfSteps();
        whatStandsFirst();
        wrongIsNotRun();
        nothingIsKept();
        drawsBeginAnew();
        drawsOverflow();
        drawsOfMuch();
        staleWrong();
        staleNeverRun();
        staleByCode();
        staleByError();
        staleByReads();
        staleByFunctions();
        staleByUnreadable();
        staleByEachName();
        staleByOthers();
        atOnce();
        byNeed();
        byHand();
        lookedAtAgain();
        document.allIsQuoted("Running");
        check.end();
    }

    private static void says(String words) {
        document.quote("Running", words);
    }

    private static Cellbrook byHandRun(String... cells) {
        Cellbrook x = Check.notebook(Cellbrook.BY_HAND, cells);
        for (int cell = 0; cell < cells.length; cell++) {
            x.run(cell);
        }
        return x;
    }

    private static void finds(String what, String text, String due) {
        check.same(what + " " + text, ExprsTest.found(text), due);
    }

    private static long drawn(int seed, int cell, int k, int n) {
        return ExprsTest.drawn(seed, cell, k, n);
    }

    private static void readsFirst() {
        says("To run a cell is to read all names that it reads, by its code, and then to find its definitions, in order:");
        Cellbrook x = Check.notebook(Cellbrook.BY_HAND, "a = 1", "b = (if 1 2 a)", "c = (fn p a)", "d = 1; e = (let p a 2)",
            "f = (fn p (let a 1 a))");
        for (int cell = 1; cell < 5; cell++) {
            x.run(cell);
        }
        check.same("read, though it would not be found", x.error(1), 5);
        check.same("read, though the function is not called", x.error(2), 5);
        check.same("read ahead of the first definition", x.kind(3, D), Cellbrook.NOTHING);
        check.same("not read, as it is not free", x.error(4), 0);
        x.run(0);
        for (int cell = 1; cell < 4; cell++) {
            x.run(cell);
        }
        check.same("read", x.value(1, B), 2);
        check.same("read", x.kind(2, C), Cellbrook.FUNCTION);
        check.same("in order", x.value(3, E), 2);
    }

    private static void whatAFreeNameIs() {
        says("a free name is what the cell has found itself ahead of it, or, as it is kept, of the cell that defines it.");
        Cellbrook x = byHandRun("a = i0; b = (+ a 1); c = (+ (+ a b) p)", "p = (* i0 100)");
        check.same("p was never run", x.error(0), 5);
        x.run(0);
        check.same("found ahead, and read", x.value(0, C), 1);
        x.setInput(0, 1);
        x.run(0);
        check.same("found anew ahead, and read as it is kept", x.value(0, C), 3);
        x.run(1);
        check.same("nothing is run by that", x.value(0, C), 3);
        x.run(0);
        check.same("read as it is kept then", x.value(0, C), 103);
        Check.define(x, 1, 'p', "(call 1 1)");
        x.run(0);
        check.same("kept of the code before", x.value(0, C), 103);
    }

    private static void functionsKeep() {
        says("A function keeps what all free names in it were when it was found.");
        Cellbrook x = byHandRun("a = i0", "b = 10; f = (let c 100 (fn d (+ (+ a b) (+ c d))))", "e = (call f 1000)");
        check.same("a cell's, its own, a local's", x.value(2, E), 1110);
        x.setInput(0, 7);
        x.run(0);
        x.run(2);
        check.same("as they were", x.value(2, E), 1110);
        Check.define(x, 1, 'b', "20");
        x.run(2);
        check.same("as they were", x.value(2, E), 1110);
        x.run(1);
        x.run(2);
        check.same("found again", x.value(2, E), 1127);
        finds("where it is called it may be another one", "(let a 1 (let g (fn b (+ a b)) (let a 50 (call g a))))", "51");
        finds("of the call that found it", "(let g (fn a (fn b (- a b))) (let h (call g 9) (let i (call g 5) (call h 1))))", "8");
    }

    private static void impossible() {
        says("What cannot be so ends it with the error 4: a number, or a name that is no function, called;"
            + " a function where a number is needed, for two, an if or a draw; a draw of less than 1;");
        finds("a number called", "(call 1 1)", "error 4");
        finds("a number called", "(call 0 f)", "error 4");
        finds("an input called", "(call i0 1)", "error 4");
        finds("a name that is no function", "(call d 1)", "error 4");
        finds("a local that is no function", "(let a 1 (call a 1))", "error 4");
        finds("what a call finds is no function", "(call (call f 1) 1)", "error 4");
        for (String sign : new String[] {"+", "-", "*", "<"}) {
            finds("the first one of two", "(" + sign + " f 1)", "error 4");
            finds("the second one of two", "(" + sign + " 1 f)", "error 4");
            finds("both of two", "(" + sign + " f f)", "error 4");
        }
        finds("an if of a function", "(if f 1 2)", "error 4");
        finds("what is chosen may be one", "(if 1 f 2)", "function");
        finds("a draw of a function", "(draw f)", "error 4");
        finds("a draw of 0", "(draw 0)", "error 4");
        finds("a draw of -1", "(draw -1)", "error 4");
        finds("a draw of the least long", "(draw -9223372036854775808)", "error 4");
        finds("a draw of 1", "(draw 1)", "0");
        finds("a local, a value, a function kept: no number is needed", "(let a f (call (fn b b) a))", "function");
        finds("in a function that is called", "(call (fn a (draw a)) 0)", "error 4");
        finds("in a function that is not called", "(fn a (draw 0))", "function");
    }

    /** Cell 0 has f, a call of which takes 32 steps, and g, a call of which takes 68. */
    private static Cellbrook stepping(String text, int more) {
        Cellbrook x = new Cellbrook();
        x.cell();
        chain(x, 29);
        x.function(5);
        x.define(0, 5);
        Check.define(x, 0, 'g', "(fn a (+ (call f 0) (call f 0)))");
        Check.define(x, 0, 'h', "(fn a (+ a 1))");
        Check.define(x, 0, 'i', "7");
        x.cell();
        // Four calls and three sums: 275 steps.
        Check.define(x, 1, 'k', "(+ (+ (+ (call g 0) (call g 0)) (call g 0)) (call g 0))");
        Check.define(x, 1, 'l', text);
        if (more > 0) {
            filler(x, more);
            x.define(1, 12);
        }
        return x;
    }

    private static void chain(Cellbrook x, int parts) {
        x.number(1);
        for (int i = 3; i <= parts; i += 2) {
            x.number(0);
            x.two(0);
        }
    }

    /** Puts an expr on the pile that takes just that many steps. */
    private static void filler(Cellbrook x, int steps) {
        if (steps % 2 == 1) {
            chain(x, steps);
        } else {
            chain(x, steps - 1);
            x.draw();
        }
    }

    private static void takes(String text, int steps) {
        check.same("300 steps, with " + text, stepping(text, 25 - steps).error(1), 0);
        check.same("301 steps, with " + text, stepping(text, 26 - steps).error(1), 4);
    }

    private static void steps() {
        says("more than 300 steps, each part of an expr that is begun counting as one.");
        takes("5", 1);
        takes("i0", 1);
        takes("i", 1);
        takes("h", 1);
        takes("(draw 5)", 2);
        takes("(+ 1 2)", 3);
        takes("(< 1 (* 2 3))", 5);
        takes("(if 1 2 (+ 3 4))", 3);
        takes("(if 0 (+ 3 4) 2)", 3);
        takes("(if (- 1 1) 5 (+ 3 4))", 7);
        takes("(let a 1 2)", 3);
        takes("(let a (+ 1 2) (+ a a))", 7);
        takes("(fn a (+ a a))", 1);
        takes("(call (fn a (+ a 1)) 5)", 6);
        takes("(call h 5)", 6);
        takes("(+ (call h 1) (call h 2))", 13);
        takes("(call h (call h (call h 0)))", 16);
    }

    private static void stepsOfAllDefinitions() {
        Cellbrook x = stepping("(+ 1 2)", 22);
        check.same("300 steps in three definitions", x.value(1, 11), 3);
        check.same("300 steps again in another run", x.seed(7), 0);
        check.same("300 steps again in another run", x.error(1), 0);
        Check.define(x, 1, 'n', "1");
        check.same("301 steps in four definitions", x.error(1), 4);
        check.same("nothing is kept of it", x.kind(1, 11), Cellbrook.NOTHING);
        x.drop(1, 13);
        check.same("300 steps", x.error(1), 0);
        finds("a loop without an end", "(let g (fn g (call g g)) (call g g))", "error 4");
        finds("a loop without an end that makes more and more", "(let g (fn g (+ 1 (call g g))) (call g g))", "error 4");
    }

    private static void unreadable() {
        says("The error 5 is to read a name of a cell that has an error, is wrong, or was never run, or that several"
            + " cells define, or that is not kept, as the cell was not run since it defines it;");
        Cellbrook x = Check.notebook(Cellbrook.BY_HAND, "a = 1", "b = a", "");
        check.same("never run", errorOfRun(x, 1), 5);
        x.run(0);
        check.same("run", errorOfRun(x, 1), 0);
        Check.define(x, 0, 'd', "d");
        check.same("it is wrong", errorOfRun(x, 1), 5);
        x.drop(0, D);
        check.same("right again, and kept still", errorOfRun(x, 1), 0);
        Check.define(x, 2, 'a', "2");
        check.same("several cells define it", errorOfRun(x, 1), 5);
        x.drop(2, A);
        check.same("one defines it", errorOfRun(x, 1), 0);
        Check.define(x, 0, 'e', "2");
        Check.define(x, 1, 'b', "e");
        check.same("not kept, as it was not run since", errorOfRun(x, 1), 5);
        x.run(0);
        check.same("kept", errorOfRun(x, 1), 0);
        Check.define(x, 0, 'd', "(call 1 1)");
        x.run(0);
        check.same("an error 4", errorOfRun(x, 1), 5);
        Check.define(x, 0, 'd', "(if b 1 2)");
        x.run(0);
        x.drop(0, D);
        check.same("an error 2 still", errorOfRun(x, 1), 5);
        Check.define(x, 2, 'c', "b");
        check.same("an error 5 goes on", errorOfRun(x, 2), 5);
        x.run(0);
        x.run(1);
        check.same("and ends", errorOfRun(x, 2), 0);
        x.remove(0);
        x.run(1);
        check.same("3, as no cell defines it", x.error(1), 3);
        check.same("what reads a cell with the error 3", errorOfRun(x, 2), 5);
    }

    private static int errorOfRun(Cellbrook x, int cell) {
        check.same("a run", x.run(cell), 1);
        return x.error(cell);
    }

    private static void unreadableAheadOfSteps() {
        says("it comes ahead of all steps.");
        Cellbrook x = byHandRun("b = (draw 0); c = a", "d = (let g (fn g (call g g)) (call g g)); e = (fn p a)", "a = 1");
        check.same("5, with an error 4 ahead of it", x.error(0), 5);
        check.same("5, with too many steps ahead of it", x.error(1), 5);
        check.same("4 then", errorOfRun(x, 0), 4);
        check.same("4 then", errorOfRun(x, 1), 4);
    }

    private static void whatStandsFirst() {
        says("What stands first is found first.");
        long first = drawn(0, 1, 1, 1000);
        long second = drawn(0, 1, 2, 1000);
        check.no("both can be told apart", first == second);
        String due = Long.toString(first - 1000 * second);
        finds("two", "(- (draw 1000) (* 1000 (draw 1000)))", due);
        finds("a local's value ahead of its body", "(let a (draw 1000) (- a (* 1000 (draw 1000))))", due);
        finds("what is called ahead of the value", "(call (let a (draw 1000) (fn b (- a (* 1000 b)))) (draw 1000))", due);
        finds("the value ahead of the body", "(call (fn a (- a (* 1000 (draw 1000)))) (draw 1000))", due);
        finds("the first one of an if", "(if (draw 1) 0 (draw 1000))", Long.toString(second));
        finds("the value of a draw", "(draw (+ 1000 (draw 1)))", Long.toString(second));
        Cellbrook x = Check.notebook(Cellbrook.AT_ONCE, "", "a = (draw 1000); b = (draw 1000)");
        check.same("the first definition", x.value(1, A), first);
        check.same("the second definition", x.value(1, B), second);
    }

    private static void wrongIsNotRun() {
        says("A cell that is wrong is not run, but has that as its error then.");
        Cellbrook x = Check.notebook(Cellbrook.BY_HAND, "a = a", "b = p", "c = 1", "c = 2");
        int[] due = {2, 3, 1, 1};
        for (int cell = 0; cell < 4; cell++) {
            check.same("not yet", x.error(cell), Cellbrook.NONE);
            check.same("not run", x.run(cell), 0);
            check.same("its error then", x.error(cell), due[cell]);
            check.same("not run", x.runs(cell), 0);
        }
        Check.define(x, 0, 'a', "p");
        check.same("its error as it was", x.error(0), 2);
        x.run(0);
        check.same("another one then", x.error(0), 3);
    }

    private static void nothingIsKept() {
        says("Of a cell with an error nothing is kept;");
        Cellbrook x = byHandRun("a = 1; b = (fn c c); d = i0", "e = a");
        Check.define(x, 0, 'd', "(draw i0)");
        check.same("kept", x.value(0, A), 1);
        x.run(0);
        check.same("the error 4", x.error(0), 4);
        check.same("not what was found ahead of it, nor what was kept", x.kind(0, A) + x.kind(0, B) + x.kind(0, D), 0);
        x.run(1);
        check.same("the error 5", x.error(1), 5);
        check.same("nothing", x.kind(1, E), Cellbrook.NOTHING);
        x.setInput(0, 1);
        x.run(0);
        x.run(1);
        check.same("kept", x.value(1, E), 1);
        Check.define(x, 1, 'a', "3");
        check.same("wrong, which is not its error yet", x.value(1, E), 1);
        x.run(1);
        check.same("the error 1", x.error(1), 1);
        check.same("nothing", x.kind(1, E), Cellbrook.NOTHING);
    }

    private static void drawsBeginAnew() {
        says("its draws begin anew with each run: the k-th draw of a run, from 1 on, is of the state, an int, which is"
            + " the seed, times 31, the cell, times 17, and k, together;");
        Cellbrook x = Check.notebook(Cellbrook.BY_HAND, "a = (draw 60000); b = (draw 60000)", "c = (draw 60000)",
            "d = (fn n (draw n))", "e = (- (call d 60000) (* 100000 (call d 60000)))");
        for (int seed : new int[] {0, 1, -1, 12345}) {
            x.seed(seed);
            for (int run = 0; run < 2; run++) {
                for (int cell = 0; cell < 4; cell++) {
                    x.run(cell);
                }
                check.same("k is 1", x.value(0, A), drawn(seed, 0, 1, 60000));
                check.same("k is 2", x.value(0, B), drawn(seed, 0, 2, 60000));
                check.same("another cell", x.value(1, C), drawn(seed, 1, 1, 60000));
                check.same("of the cell that is run", x.value(3, E),
                    drawn(seed, 3, 1, 60000) - 100000 * drawn(seed, 3, 2, 60000));
            }
        }
        // Told once by hand: the state 9 * 31 + 0 * 17 + 1 is 280, 280 * 1664525 + 1013904223 is 1479971223 as an int,
        // and that shifted by 16 is 22582.
        x.seed(9);
        x.run(0);
        check.same("told by hand", x.value(0, A), 22582);
    }

    private static void drawsOverflow() {
        says("this times 1664525, and 1013904223, together, all told with overflow;");
        Cellbrook x = Check.notebook(Cellbrook.AT_ONCE, "", "", "", "", "", "", "", "", "", "", "", "a = (draw 65536); b = (draw 65536)");
        for (int seed : new int[] {INT_MAX, -INT_MAX - 1, 69273666, 69273667, -69273667, 1290, 1291}) {
            x.seed(seed);
            check.same("seed " + seed, x.value(11, A), drawn(seed, 11, 1, 65536));
            check.same("seed " + seed, x.value(11, B), drawn(seed, 11, 2, 65536));
        }
        for (int seed : new int[] {INT_MAX, -INT_MAX - 1, -1}) {
            x.seed(seed);
            check.same("by long numbers, seed " + seed, x.value(11, A), drawnByLongs(seed, 11, 1));
        }
    }

    /** The same by long numbers and remainders, in place of the overflow of ints. */
    private static long drawnByLongs(long seed, long cell, long k) {
        long all = 4294967296L;
        long state = Math.floorMod(seed * 31 + cell * 17 + k, all);
        return Math.floorMod(state * 1664525 + 1013904223, all) / 65536;
    }

    private static void drawsOfMuch() {
        says("shifted right by 16 with zeros, its remainder by n (an int; greater ones are 2147483647).");
        Cellbrook x = Check.notebook(Cellbrook.AT_ONCE, "a = (draw 65536)");
        int high = 0;
        for (int seed = 0; seed < 200; seed++) {
            x.seed(seed);
            long value = x.value(0, A);
            check.same("with zeros", value, drawnByLongs(seed, 0, 1));
            high += value >= 32768 ? 1 : 0;
        }
        check.yes("some are of a number below 0", high > 50 && high < 150);
        long whole = drawn(0, 1, 1, 65536);
        finds("the remainder", "(draw 7)", Long.toString(whole % 7));
        finds("the remainder", "(draw " + whole + ")", "0");
        finds("the remainder", "(draw " + (whole + 1) + ")", Long.toString(whole));
        for (long n : new long[] {65536, 65537, INT_MAX - 1, INT_MAX, INT_MAX + 1L, 4294967296L, 4294967297L, 4294967303L,
            Long.MAX_VALUE - 1, Long.MAX_VALUE}) {
            finds("greater ones", "(draw " + n + ")", Long.toString(whole));
        }
    }

    private static void staleWrong() {
        says("A cell that is wrong is stale just if that is not its error yet.");
        Cellbrook x = Check.notebook(Cellbrook.BY_HAND, "a = (+ p (draw i0))", "b = 1", "c = b");
        x.run(1);
        x.run(2);
        check.yes("not yet", x.isStale(0));
        x.run(0);
        check.no("it is", x.isStale(0));
        x.setInput(0, 4);
        x.seed(4);
        check.no("whatever else", x.isStale(0));
        Check.define(x, 0, 'd', "b");
        x.drop(1, B);
        Check.define(x, 1, 'b', "2");
        check.yes("b is stale", x.isStale(1));
        check.no("though it reads what is stale", x.isStale(0));
        Check.define(x, 1, 'd', "3");
        check.yes("wrong in another way", x.isStale(0) && x.isStale(1));
        x.run(0);
        x.run(1);
        check.no("both have that as their error", x.isStale(0) || x.isStale(1));
        x.drop(0, D);
        check.yes("wrong as it was before", x.isStale(0));
    }

    private static void staleNeverRun() {
        says("Another one is stale, if it was never run;");
        Cellbrook x = Check.notebook(Cellbrook.BY_HAND, "", "a = 1");
        check.yes("never run", x.isStale(0) && x.isStale(1));
        x.run(0);
        check.no("run", x.isStale(0));
        check.yes("never run", x.isStale(1));
        x.valueAnew(1, A);
        check.yes("anew is no run of it", x.isStale(1));
        x.keep();
        x.run(1);
        x.remove(1);
        x.take(0, 1);
        check.yes("there again, never run", x.isStale(1));
    }

    private static void staleByCode() {
        says("or its code, or an input that is in it, or, if a draw is in it, the seed, is another one than when it was run;");
        Cellbrook x = byHandRun("a = (if 0 i1 2)", "b = (if 0 (draw 3) (fn c i2))", "d = 1; e = 2");
        x.setInput(0, 9);
        x.setInput(3, 9);
        check.no("inputs that are not in it", x.isStale(0) || x.isStale(1) || x.isStale(2));
        x.setInput(1, 9);
        check.yes("one that is in it, found or not", x.isStale(0));
        check.no("not in the others", x.isStale(1) || x.isStale(2));
        x.setInput(1, 0);
        check.no("the same again", x.isStale(0));
        x.setInput(2, 1);
        check.yes("in the body of a function", x.isStale(1));
        x.setInput(2, 0);
        x.seed(1);
        check.yes("a draw in it, found or not", x.isStale(1));
        check.no("none in it", x.isStale(0) || x.isStale(2));
        x.seed(0);
        check.no("the same again", x.isStale(1));
        x.drop(2, D);
        Check.define(x, 2, 'd', "1");
        check.yes("another order", x.isStale(2));
        x.drop(2, E);
        check.yes("one less", x.isStale(2));
        Check.define(x, 2, 'e', "2");
        check.no("the same again", x.isStale(2));
        Check.define(x, 2, 'p', "3");
        check.yes("one more", x.isStale(2));
        x.drop(2, 15);
        x.rename(D, 15);
        check.yes("renamed", x.isStale(2));
        x.rename(15, D);
        check.no("renamed again", x.isStale(2));
        otherCodes();
    }

    private static void otherCodes() {
        String[] codes = {"5", "6", "a", "b", "i0", "i1", "(draw 5)", "(draw 6)", "(+ 1 2)", "(- 1 2)", "(* 1 2)", "(< 1 2)",
            "(+ 2 1)", "(if 1 2 3)", "(if 1 3 2)", "(if 2 1 3)", "(let p 1 2)", "(let o 1 2)", "(let p 2 1)", "(fn p 1)",
            "(fn o 1)", "(fn p 2)", "(call 1 2)", "(call 2 1)", "(+ 1 (+ 2 3))", "(+ (+ 1 2) 3)"};
        for (String one : codes) {
            Cellbrook x = byHandRun("a = 1; b = 2", "c = " + one);
            for (String other : codes) {
                Check.define(x, 1, 'c', other);
                check.same("run as " + one + ", then " + other, x.isStale(1) ? 1 : 0, one.equals(other) ? 0 : 1);
            }
        }
    }

    private static void staleByError() {
        says("or it has one of the errors 1 to 3 still;");
        Cellbrook x = byHandRun("a = 1", "b = 2", "c = 3");
        x.number(7);
        x.define(1, A);
        Check.define(x, 2, 'c', "c");
        for (int cell = 0; cell < 3; cell++) {
            check.same("wrong", x.run(cell), 0);
        }
        x.drop(1, A);
        Check.define(x, 2, 'c', "3");
        check.yes("by code, inputs and what was read as it was run, but for its error", x.isStale(0) && x.isStale(1)
            && x.isStale(2));
        check.same("still", x.error(0) * 100 + x.error(1) * 10 + x.error(2), 112);
        x.run(0);
        check.no("run", x.isStale(0));
        Cellbrook y = byHandRun("a = 1", "b = a");
        y.drop(0, A);
        y.run(1);
        Check.define(y, 0, 'a', "1");
        check.no("a is as it was", y.isStale(0));
        check.yes("3 still", y.isStale(1));
        Cellbrook z = byHandRun("a = (call 1 1)", "b = a");
        check.no("4 and 5 are not among them", z.isStale(0) || z.isStale(1));
    }

    private static void staleByReads() {
        says("or what it has read is not the same any more as it is kept, of whichever cell");
        Cellbrook x = byHandRun("a = i0", "b = a", "c = 9");
        x.setInput(0, 1);
        x.run(0);
        check.yes("another number", x.isStale(1));
        x.setInput(0, 0);
        x.run(0);
        check.no("the same number, of another run", x.isStale(1));
        x.drop(0, A);
        Check.define(x, 2, 'a', "0");
        x.run(2);
        check.no("the same number, of another cell", x.isStale(1));
        Check.define(x, 2, 'a', "(- 0 1)");
        x.run(2);
        check.yes("another number, of another cell", x.isStale(1));
        x.drop(2, A);
        x.run(2);
        Check.define(x, 0, 'a', "i0");
        check.no("of the cell before, which has it kept still", x.isStale(1));
        Check.define(x, 0, 'a', "(fn p p)");
        x.run(0);
        check.yes("a function", x.isStale(1));
        x.run(1);
        Check.define(x, 0, 'a', "0");
        x.run(0);
        check.yes("a number in place of a function", x.isStale(1));
    }

    private static void staleByFunctions() {
        says("(a function is the same only if it is of the same run;");
        Cellbrook x = byHandRun("f = (fn a a); g = (fn a a)", "b = (call f 1)", "c = g; d = f", "e = (call d 1)");
        x.run(1);
        x.run(2);
        x.run(3);
        check.no("of the same run", x.isStale(1) || x.isStale(2) || x.isStale(3));
        x.run(0);
        check.yes("the same code, but of another run", x.isStale(1) && x.isStale(2));
        x.run(1);
        x.run(2);
        check.no("of the same run", x.isStale(1) || x.isStale(2));
        check.yes("passed on, but of another run", x.isStale(3));
        x.run(3);
        // Of one run, but not the same one.
        Check.define(x, 2, 'd', "g");
        x.run(2);
        check.yes("another function", x.isStale(3));
        Check.define(x, 0, 'g', "f");
        x.run(0);
        x.run(2);
        x.run(3);
        x.setInput(0, 1);
        check.no("one function by two names", x.isStale(2) || x.isStale(3));
        // A function that was read is the same only of that run, even if a number was there in between.
        Check.define(x, 0, 'f', "1");
        x.run(0);
        Check.define(x, 0, 'f', "(fn a a)");
        x.run(0);
        check.yes("of another run", x.isStale(1));
    }

    private static void staleByUnreadable() {
        says("a name that could not be read is the same as long as it cannot be;");
        Cellbrook x = Check.notebook(Cellbrook.BY_HAND, "a = (draw i0)", "b = a", "");
        x.run(1);
        check.same("never run: it can't be read", x.error(1), 5);
        x.run(0);
        check.same("an error", x.error(0), 4);
        check.no("it still can't be read", x.isStale(1));
        Check.define(x, 2, 'a', "1");
        x.run(0);
        x.run(2);
        check.no("of several cells: it still can't be read", x.isStale(1));
        x.drop(0, A);
        x.run(0);
        x.drop(2, A);
        Check.define(x, 0, 'a', "a");
        x.run(0);
        x.run(2);
        check.no("of a wrong one: it still can't be read", x.isStale(1));
        Check.define(x, 0, 'a', "0");
        x.run(0);
        check.yes("it can be read, though it is 0", x.isStale(1));
        x.run(1);
        check.no("read", x.isStale(1));
        Check.define(x, 0, 'a', "(draw 0)");
        x.run(0);
        check.yes("it can't be read any more", x.isStale(1));
    }

    private static void staleByEachName() {
        says("each name counts by itself);");
        Cellbrook x = byHandRun("a = i0; b = i1; c = (fn p p)", "d = a", "e = (+ a b)");
        x.setInput(1, 1);
        x.run(0);
        check.no("it reads a alone, of a cell that was run again", x.isStale(1));
        check.yes("it reads b too", x.isStale(2));
        Cellbrook y = Check.notebook(Cellbrook.BY_HAND, "a = 1", "b = 2", "c = (+ a b)");
        y.run(2);
        y.run(0);
        y.run(2);
        check.same("a can be read, b can't", y.error(2), 5);
        check.yes("b was never run", y.isStale(2));
        Check.define(y, 1, 'b', "(draw 0)");
        y.run(1);
        check.no("a and b are the same", y.isStale(2));
        Check.define(y, 0, 'a', "7");
        y.run(0);
        check.yes("a is another one, though b can't be read", y.isStale(2));
        y.run(2);
        Check.define(y, 0, 'a', "(draw 0)");
        y.run(0);
        check.yes("a can't be read any more, nor could b", y.isStale(2));
    }

    private static void staleByOthers() {
        says("or a cell that it reads is stale.");
        Cellbrook x = byHandRun("a = i0", "b = a", "c = b", "d = 1; e = i0", "p = d", "o = 1");
        x.setInput(0, 3);
        check.yes("it, and over it", x.isStale(0) && x.isStale(1) && x.isStale(2));
        check.yes("of a name that will be the same", x.isStale(3) && x.isStale(4));
        check.no("another one", x.isStale(5));
        x.setInput(0, 0);
        check.no("none", x.isStale(0) || x.isStale(1) || x.isStale(2) || x.isStale(3) || x.isStale(4));
        Check.define(x, 1, 'n', "n");
        check.yes("a wrong one is", x.isStale(1) && x.isStale(2));
        x.run(1);
        x.run(2);
        check.no("a wrong one that has it as its error isn't", x.isStale(1) || x.isStale(2));
    }

    private static void atOnce() {
        says("In the mode AT_ONCE all stale cells are run behind each call, those that they need first, by numbers;"
            + " so that run() finds none there;");
        Cellbrook x = new Cellbrook();
        x.cell();
        check.same("behind cell", x.runs(0), 1);
        x.name(B);
        x.define(0, A);
        check.same("behind define", x.error(0), 3);
        x.cell();
        x.input(0);
        x.define(1, B);
        check.same("behind define, the needed one first", x.value(0, A), 0);
        x.setInput(0, 5);
        check.same("behind setInput", x.value(0, A), 5);
        check.same("each once", x.runs(0) * 10 + x.runs(1), 33);
        Check.define(x, 1, 'b', "(draw 60000)");
        x.seed(4);
        check.same("behind seed", x.value(0, A), drawn(4, 1, 1, 60000));
        x.rename(A, C);
        check.same("behind rename", x.value(0, C), drawn(4, 1, 1, 60000));
        x.keep();
        x.drop(1, B);
        check.same("behind drop", x.error(0), 3);
        x.take(0, 1);
        check.same("behind take", x.error(0), 0);
        x.remove(1);
        check.same("behind remove", x.error(0), 3);
        x.mode(Cellbrook.BY_HAND);
        x.take(0, 1);
        check.same("not by hand", x.error(0), 3);
        x.mode(Cellbrook.AT_ONCE);
        check.same("behind mode", x.value(0, C), drawn(4, 1, 1, 60000));
        check.same("run finds none", x.run(0) + x.run(1), 0);
        check.no("none is stale", x.isStale(0) || x.isStale(1));
    }

    private static void byNeed() {
        says("in the mode BY_NEED run() runs all stale cells that the cell needs, and it, if it is stale, in the same order;");
        Cellbrook x = Check.notebook(Cellbrook.BY_NEED, "a = (+ b c)", "b = d", "c = (* d i0)", "d = i1", "e = a", "f = (draw 0)");
        check.same("none without run()", x.runs(0) + x.runs(1) + x.runs(2) + x.runs(3), 0);
        check.same("it and three others", x.run(0), 4);
        check.same("none is stale", x.run(0), 0);
        x.setInput(0, 2);
        check.same("one that it needs, but it is the same", x.run(0), 1);
        x.setInput(1, 3);
        check.same("one that needs one", x.run(1), 2);
        check.same("the rest of them", x.run(0), 2);
        check.same("in order", x.value(0, A), 9);
        check.same("not one that needs it", x.runs(4), 0);
        check.same("that one, all else being done", x.run(4), 1);
        check.same("an error is a run", x.run(5), 1);
        check.same("it is not stale by that", x.run(5), 0);
        Check.define(x, 5, 'f', "(+ f d)");
        x.setInput(1, 4);
        check.same("a wrong one's needs are run", x.run(5), 1);
        check.same("and it has its error", x.error(5), 2);
    }

    private static void byHand() {
        says("in the mode BY_HAND run() runs the cell alone, whatever is stale.");
        Cellbrook x = Check.notebook(Cellbrook.BY_HAND, "a = i0", "b = (+ a 1)");
        check.same("alone", x.run(1), 1);
        check.same("not what it needs", x.runs(0), 0);
        check.same("what it needs was never run", x.error(1), 5);
        x.run(0);
        check.same("alone", x.runs(1), 1);
        x.run(1);
        check.no("nothing is stale", x.isStale(0) || x.isStale(1));
        check.same("run though it is not stale", x.run(0) + x.run(1), 2);
        x.setInput(0, 6);
        check.same("what it needs is stale", x.run(1), 1);
        check.same("by what is kept", x.value(1, B), 1);
        check.same("runs", x.runs(0) * 10 + x.runs(1), 24);
    }

    private static void lookedAtAgain() {
        says("A stale cell that is run only because one that it needs is stale is looked at again when that is done:"
            + " if it is not stale then any more, it is not run.");
        Cellbrook x = Check.notebook(Cellbrook.BY_NEED, "d = c", "c = b", "b = (* a 0)", "a = i0");
        check.same("all are run once", x.run(0), 4);
        x.setInput(0, 1);
        check.yes("all are stale", x.isStale(0) && x.isStale(1) && x.isStale(2) && x.isStale(3));
        check.same("a, and b by another number; not c, as b is the same", x.run(0), 2);
        check.same("runs", x.runs(0) * 1000 + x.runs(1) * 100 + x.runs(2) * 10 + x.runs(3), 1122);
        check.no("none is stale any more", x.isStale(0) || x.isStale(1) || x.isStale(2) || x.isStale(3));
        x.mode(Cellbrook.AT_ONCE);
        x.setInput(0, 2);
        check.same("at once as well", x.runs(0) * 1000 + x.runs(1) * 100 + x.runs(2) * 10 + x.runs(3), 1133);
        Check.define(x, 3, 'a', "(+ i0 0)");
        check.same("another code, the same number", x.runs(2) * 10 + x.runs(3), 34);
        Check.define(x, 3, 'a', "(draw 0)");
        check.same("it can't be read: all have an error", x.error(0) * 100 + x.error(1) * 10 + x.error(2), 555);
        check.same("runs", x.runs(0) * 1000 + x.runs(1) * 100 + x.runs(2) * 10 + x.runs(3), 2245);
        Check.define(x, 3, 'a', "(draw -1)");
        check.same("it still can't: a alone is run", x.runs(0) * 1000 + x.runs(1) * 100 + x.runs(2) * 10 + x.runs(3), 2246);
        functionsAreLookedAtAgain();
    }

    private static void functionsAreLookedAtAgain() {
        Cellbrook x = Check.notebook(Cellbrook.AT_ONCE, "a = i0", "f = (fn b (+ b (* a 0)))", "c = (call f 1)", "d = c");
        int before = x.runs(3);
        x.setInput(0, 1);
        check.same("a function of another run is not the same", x.runs(2), 3);
        check.same("its number is", x.runs(3), before);
    }
}
