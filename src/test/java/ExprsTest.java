/** Promises 1 to 10: a new object, and the exprs on the pile. */
public final class ExprsTest {
    private static final Check check = new Check("ExprsTest");
    private static final Class<IllegalStateException> STATE = IllegalStateException.class;
    private static final Class<IllegalArgumentException> ARGUMENT = IllegalArgumentException.class;
    private static final Class<IndexOutOfBoundsException> INDEX = IndexOutOfBoundsException.class;

    public static void main(String[] args) {
        aNewObject();
        constants();
        leaves();
        leavesOnAFullPile();
        draw();
        two();
        choose();
        local();
        function();
        call();
        parts();
        scopes();
        check.end();
    }

    private static void aNewObject() {
        Cellbrook x = new Cellbrook();
        for (int cell = 0; cell < 12; cell++) {
            int c = cell;
            check.refused("1: no cell " + cell, x, INDEX, () -> x.error(c));
        }
        check.refused("1: no branch", x, INDEX, () -> x.differ(0));
        for (int input = 0; input < 4; input++) {
            check.same("1: input " + input, x.setInput(input, 5), 0);
        }
        check.same("1: seed", x.seed(5), 0);
        check.same("1: mode", x.mode(Cellbrook.BY_HAND), Cellbrook.AT_ONCE);
        check.same("1: the pile is empty", x.number(1), 1);
        check.same("1: cells from 0", x.cell(), 0);
        check.same("1: branches from 0", x.keep(), 0);
        Cellbrook other = new Cellbrook();
        check.same("1: objects are apart", other.setInput(0, 1), 0);
        check.same("1: objects are apart, pile", other.number(1), 1);
    }

    private static void constants() {
        check.same("NONE", Cellbrook.NONE, -1);
        check.same("AT_ONCE", Cellbrook.AT_ONCE, 0);
        check.same("BY_NEED", Cellbrook.BY_NEED, 1);
        check.same("BY_HAND", Cellbrook.BY_HAND, 2);
        check.same("NOTHING", Cellbrook.NOTHING, 0);
        check.same("NUMBER", Cellbrook.NUMBER, 1);
        check.same("FUNCTION", Cellbrook.FUNCTION, 2);
    }

    /** What the expr is in a cell of its own; d is a number 40 and f is a function x -> x + 1 elsewhere. */
    static String found(String text) {
        Cellbrook x = Check.notebook(Cellbrook.AT_ONCE, "d = 40; f = (fn a (+ a 1))", "");
        x.setInput(0, 11);
        x.setInput(1, -12);
        x.setInput(2, Long.MAX_VALUE);
        x.setInput(3, Long.MIN_VALUE);
        Check.define(x, 1, 'p', text);
        return x.kind(1, 15) == Cellbrook.FUNCTION ? "function" : x.error(1) != 0 ? "error " + x.error(1)
            : Long.toString(x.value(1, 15));
    }

    private static void finds(String what, String text, String due) {
        check.same(what + " " + text, found(text), due);
    }

    private static void leaves() {
        Cellbrook x = new Cellbrook();
        check.same("2: number", x.number(Long.MIN_VALUE), 1);
        check.same("2: number", x.number(Long.MAX_VALUE), 2);
        check.same("3: name", x.name(0), 3);
        check.same("3: name", x.name(15), 4);
        check.same("4: input", x.input(0), 5);
        check.same("4: input", x.input(3), 6);
        check.refused("3: name", x, INDEX, () -> x.name(-1));
        check.refused("3: name", x, INDEX, () -> x.name(16));
        check.refused("3: name", x, INDEX, () -> x.name(Integer.MIN_VALUE));
        check.refused("3: name", x, INDEX, () -> x.name(Integer.MAX_VALUE));
        check.refused("4: input", x, INDEX, () -> x.input(-1));
        check.refused("4: input", x, INDEX, () -> x.input(4));
        check.refused("4: input", x, INDEX, () -> x.input(Integer.MIN_VALUE));
        check.same("2: the pile is the same behind all that", x.number(0), 7);
        finds("2:", "9223372036854775807", "9223372036854775807");
        finds("2:", "-9223372036854775808", "-9223372036854775808");
        finds("3:", "d", "40");
        finds("3:", "f", "function");
        finds("3: undefined", "m", "error 3");
        finds("4:", "i0", "11");
        finds("4:", "i1", "-12");
        finds("4:", "i2", "9223372036854775807");
        finds("4:", "i3", "-9223372036854775808");
    }

    private static void leavesOnAFullPile() {
        Cellbrook x = new Cellbrook();
        for (int i = 1; i <= 20; i++) {
            check.same("2: number", x.number(i), i);
        }
        check.refused("2: 20 are there", x, STATE, () -> x.number(0));
        check.refused("3: 20 are there", x, STATE, () -> x.name(0));
        check.refused("4: 20 are there", x, STATE, () -> x.input(0));
        check.refused("3: the name comes first", x, INDEX, () -> x.name(16));
        check.refused("4: the input comes first", x, INDEX, () -> x.input(4));
        check.same("8: a full pile can be used", x.local(3), 19);
        check.same("2: there is room again", x.number(5), 20);
        check.same("5: a draw needs no room", x.draw(), 20);
        check.same("9: a function needs no room", x.function(0), 20);
        check.same("7: an if takes three", x.choose(), 18);
    }

    private static void draw() {
        Cellbrook x = new Cellbrook();
        check.refused("5: empty", x, STATE, x::draw);
        x.number(9);
        check.same("5: draw", x.draw(), 1);
        // Seed 0, cell 1: told by the document's formula, counted apart from the class.
        finds("5:", "(draw 9)", Long.toString(drawn(0, 1, 1, 9)));
        finds("5: k from 1 on", "(+ (draw 1000) (* 1000 (draw 1000)))",
            Long.toString(drawn(0, 1, 1, 1000) + 1000 * drawn(0, 1, 2, 1000)));
        finds("5: of one", "(draw 1)", "0");
        finds("5: less than 1", "(draw 0)", "error 4");
        finds("5: less than 1", "(draw -5)", "error 4");
        finds("5: a function", "(draw f)", "error 4");
        finds("5: greater ones", "(draw 9223372036854775807)", Long.toString(drawn(0, 1, 1, 2147483647)));
        finds("5: greater ones", "(draw 2147483648)", Long.toString(drawn(0, 1, 1, 2147483647)));
        finds("5: the argument is drawn first", "(draw (+ 1 (draw 5)))",
            Long.toString(drawn(0, 1, 2, 1 + (int) drawn(0, 1, 1, 5))));
    }

    static long drawn(int seed, int cell, int k, int n) {
        int state = seed * 31 + cell * 17 + k;
        return (state * 1664525 + 1013904223 >>> 16) % n;
    }

    private static void two() {
        Cellbrook x = new Cellbrook();
        check.refused("6: empty", x, STATE, () -> x.two(0));
        x.number(1);
        check.refused("6: one", x, STATE, () -> x.two(0));
        check.refused("6: the sign comes first", x, ARGUMENT, () -> x.two(4));
        check.refused("6: sign", x, ARGUMENT, () -> x.two(-1));
        x.number(1);
        check.refused("6: sign", x, ARGUMENT, () -> x.two(4));
        check.refused("6: sign", x, ARGUMENT, () -> x.two(Integer.MIN_VALUE));
        check.same("6: two", x.two(3), 1);
        finds("6:", "(+ 7 3)", "10");
        finds("6:", "(- 7 3)", "4");
        finds("6:", "(* 7 3)", "21");
        finds("6:", "(< 7 3)", "0");
        finds("6:", "(< 3 7)", "1");
        finds("6:", "(< 3 3)", "0");
        finds("6:", "(< -9223372036854775808 9223372036854775807)", "1");
        finds("6:", "(+ 9223372036854775807 1)", "-9223372036854775808");
        finds("6:", "(- -9223372036854775808 1)", "9223372036854775807");
        finds("6:", "(* 4611686018427387904 2)", "-9223372036854775808");
        finds("6: a function", "(+ 1 f)", "error 4");
        finds("6: a function", "(+ f 1)", "error 4");
        finds("6: a function", "(< f f)", "error 4");
    }

    private static void choose() {
        Cellbrook x = new Cellbrook();
        check.refused("7: empty", x, STATE, x::choose);
        x.number(1);
        x.number(2);
        check.refused("7: two", x, STATE, x::choose);
        x.number(3);
        check.same("7: choose", x.choose(), 1);
        finds("7:", "(if 1 20 30)", "20");
        finds("7:", "(if 0 20 30)", "30");
        finds("7:", "(if -1 20 30)", "20");
        finds("7: an if of a function", "(if f 20 30)", "error 4");
        finds("7: the other one is not found", "(if 1 20 (+ f f))", "20");
        finds("7: the other one is not found", "(if 0 (call 1 1) 30)", "30");
        finds("7: a function chosen", "(call (if 0 3 f) 6)", "7");
        finds("7: draws of the other one are none", "(+ (if 1 0 (draw 9)) (draw 1000))",
            Long.toString(drawn(0, 1, 1, 1000)));
    }

    private static void local() {
        Cellbrook x = new Cellbrook();
        check.refused("8: empty", x, STATE, () -> x.local(0));
        x.number(1);
        check.refused("8: one", x, STATE, () -> x.local(0));
        check.refused("8: the name comes first", x, INDEX, () -> x.local(16));
        check.refused("8: name", x, INDEX, () -> x.local(-1));
        x.number(1);
        check.refused("8: name", x, INDEX, () -> x.local(16));
        check.same("8: local", x.local(15), 1);
        finds("8:", "(let a 5 (* a a))", "25");
        finds("8: a function", "(let a f (call a 5))", "6");
        finds("8: the value is found outside", "(let d (+ d 1) (+ d 1))", "42");
        finds("8: the value is found once", "(let a (draw 1000) (+ a (* 1000 a)))",
            Long.toString(1001 * drawn(0, 1, 1, 1000)));
        finds("8: the value is found, used or not", "(let a (call 1 1) 5)", "error 4");
    }

    private static void function() {
        Cellbrook x = new Cellbrook();
        check.refused("9: empty", x, STATE, () -> x.function(0));
        check.refused("9: the name comes first", x, INDEX, () -> x.function(16));
        x.number(1);
        check.refused("9: name", x, INDEX, () -> x.function(-1));
        check.same("9: function", x.function(15), 1);
        finds("9:", "(fn a a)", "function");
        finds("9: the body is not found yet", "(fn a (call 1 1))", "function");
        finds("9: it keeps its names", "(let a 5 (let g (fn b (+ a b)) (let a 100 (call g 1))))", "6");
    }

    private static void call() {
        Cellbrook x = new Cellbrook();
        check.refused("10: empty", x, STATE, x::call);
        x.number(1);
        check.refused("10: one", x, STATE, x::call);
        x.number(1);
        check.same("10: call", x.call(), 1);
        finds("10:", "(call (fn a (- a 1)) 8)", "7");
        finds("10: of another cell", "(call f 8)", "9");
        finds("10: a number", "(call 5 8)", "error 4");
        finds("10: no function", "(call d 8)", "error 4");
        finds("10: the value is found once", "(call (fn a (+ a (* 1000 a))) (draw 1000))",
            Long.toString(1001 * drawn(0, 1, 1, 1000)));
        finds("10: the value is found, used or not", "(call (fn a 1) (call 1 1))", "error 4");
        finds("10: of two", "(call (call (fn a (fn b (- a b))) 10) 3)", "7");
        finds("10: a function as the value", "(call (fn a (call a 1)) f)", "2");
        finds("10: a loop", "(let g (fn g (fn n (if n (+ n (call (call g g) (- n 1))) 0))) (call (call g g) 10))", "55");
    }

    /** A chain of additions with that many parts, an odd number. */
    private static int chain(Cellbrook x, int parts) {
        int height = x.number(0);
        for (int i = 1; i < parts; i += 2) {
            x.number(1);
            height = x.two(0);
        }
        return height;
    }

    private static void parts() {
        Cellbrook x = new Cellbrook();
        chain(x, 29);
        check.same("9: 30 parts", x.function(0), 1);
        check.refused("9: 31 parts", x, STATE, () -> x.function(0));
        check.refused("5: 31 parts", x, STATE, x::draw);
        x.number(0);
        check.refused("6: 32 parts", x, STATE, () -> x.two(0));
        check.refused("8: 32 parts", x, STATE, () -> x.local(0));
        check.refused("10: 32 parts", x, STATE, x::call);
        x.number(0);
        check.refused("7: 33 parts", x, STATE, x::choose);
        check.refused("6: the sign comes ahead of the parts", x, ARGUMENT, () -> x.two(9));
        check.refused("8: the name comes ahead of the parts", x, INDEX, () -> x.local(99));
        check.refused("9: the name comes ahead of the parts", x, INDEX, () -> x.function(99));

        Cellbrook y = new Cellbrook();
        chain(y, 15);
        chain(y, 13);
        check.same("5: 14 parts", y.draw(), 2);
        check.same("6: 30 parts", y.two(0), 1);
        check.refused("5: 31 parts", y, STATE, y::draw);
        chain(y, 27);
        y.number(1);
        check.same("8: 29 parts", y.local(0), 2);
        check.same("5: 30 parts", y.draw(), 2);
        chain(y, 9);
        chain(y, 9);
        chain(y, 11);
        check.same("7: 30 parts", y.choose(), 3);
        chain(y, 15);
        chain(y, 15);
        check.refused("10: 31 parts", y, STATE, y::call);
        check.refused("6: 31 parts", y, STATE, () -> y.two(0));
        check.refused("8: 31 parts", y, STATE, () -> y.local(0));
        chain(y, 1);
        chain(y, 13);
        chain(y, 15);
        check.same("10: 29 parts", y.call(), 7);
        check.same("10: the pile behind it", y.number(1), 8);
    }

    private static void scopes() {
        finds("the nearest one", "(let a 1 (let a 2 a))", "2");
        finds("the nearest one", "(let a 1 (+ (let a 2 a) a))", "3");
        finds("the nearest one", "(call (fn a (call (fn a a) (+ a 1))) 5)", "6");
        finds("a function's name ahead of a local's", "(let a 1 (call (fn a a) 2))", "2");
        finds("a local's name ahead of a function's", "(call (fn a (let a 9 a)) 2)", "9");
        finds("a local ahead of a cell's", "(let d 1 d)", "1");
        finds("a function's name ahead of a cell's", "(call (fn d d) 1)", "1");
        finds("what a function keeps, not what is where it is called", "(let d 1 (call (fn b d) 2))", "1");
        finds("what a cell's function keeps", "(let a 7 (+ a (call f 1)))", "9");
    }
}
