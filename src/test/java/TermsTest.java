/** The sentences of the document's "Exprs", "Cells" and "Exceptions", each with a test of its own. */
public final class TermsTest {
    private static final Check check = new Check("TermsTest");
    private static final Document document = new Document(check);
    private static final Class<IllegalStateException> STATE = IllegalStateException.class;
    private static final Class<IllegalArgumentException> ARGUMENT = IllegalArgumentException.class;
    private static final Class<IndexOutOfBoundsException> INDEX = IndexOutOfBoundsException.class;
    private static final String MAX = "9223372036854775807";
    private static final String MIN = "-9223372036854775808";

    public static void main(String[] args) {
        pile();
        partsOfOne();
        partsOfTwo();
        partsOfThree();
        names();
        leaves();
        twos();
        ifs();
        localsFunctionsCalls();
        nearest();
        document.allIsQuoted("Exprs");
        numbered();
        definitions();
        reads();
        readsItsOwn();
        needs();
        wrong();
        document.allIsQuoted("Cells");
        noSuch();
        outOfRange();
        asTold();
        severalApply();
        changesNothing();
        constants();
        document.allIsQuoted("Exceptions");
        check.end();
    }

    private static void finds(String what, String text, String due) {
        check.same(what + " " + text, ExprsTest.found(text), due);
    }

    // Exprs

    /** Puts an expr of just that many parts on the pile. */
    static int sized(Cellbrook x, int parts) {
        int height = x.name(2);
        for (int i = 3; i <= parts; i += 2) {
            x.name(2);
            height = x.two(0);
        }
        return parts % 2 == 0 ? x.draw() : height;
    }

    private static Cellbrook with(int... sizes) {
        Cellbrook x = new Cellbrook();
        x.cell();
        for (int size : sizes) {
            sized(x, size);
        }
        return x;
    }

    private static Cellbrook piled(int count) {
        Cellbrook x = new Cellbrook();
        x.cell();
        for (int i = 0; i < count; i++) {
            x.number(1000 + i);
        }
        return x;
    }

    private static void pile() {
        document.quote("Exprs",
            "Exprs are told on a pile of at most 20, each with at most 30 parts, itself and all in it, each as often as it occurs.");
        check.same("19, and one more", piled(19).number(1), 20);
        check.same("19, and a name", piled(19).name(1), 20);
        check.same("19, and an input", piled(19).input(1), 20);
        check.refusal("20, and one more", STATE, () -> piled(20), x -> x.number(1));
        check.refusal("20, and a name", STATE, () -> piled(20), x -> x.name(1));
        check.refusal("20, and an input", STATE, () -> piled(20), x -> x.input(1));
        Cellbrook x = piled(20);
        check.same("each of them is there", x.define(0, 0), 1);
        check.same("the last one is on top", x.value(0, 0), 1019);
        check.same("there is room for one again", x.number(5), 20);
        for (int i = 0; i < 20; i++) {
            x.define(0, 0);
        }
        check.same("the first one is at the bottom", x.value(0, 0), 1000);
        check.refused("none is left", x, STATE, () -> x.define(0, 0));
    }

    private static void partsOfOne() {
        check.same("a draw of 29 parts", with(29).draw(), 1);
        check.refusal("a draw of 30 parts", STATE, () -> with(30), Cellbrook::draw);
        check.same("a function of 29 parts", with(29).function(0), 1);
        check.refusal("a function of 30 parts", STATE, () -> with(30), x -> x.function(0));
        check.same("all that is on the pile below doesn't count", with(30, 30, 29).draw(), 3);
        Cellbrook x = with(30);
        check.same("an expr of 30 parts is one", x.define(0, 0), 1);
    }

    private static void partsOfTwo() {
        int[][] just = {{1, 28}, {28, 1}, {14, 15}};
        int[][] many = {{1, 29}, {29, 1}, {15, 15}, {30, 30}};
        for (int[] sizes : just) {
            for (int sign = 0; sign < 4; sign++) {
                check.same("two of 29 parts", with(sizes).two(sign), 1);
            }
            check.same("a local of 29 parts", with(sizes).local(0), 1);
            check.same("a call of 29 parts", with(sizes).call(), 1);
        }
        for (int[] sizes : many) {
            for (int sign = 0; sign < 4; sign++) {
                int s = sign;
                check.refusal("two of 30 parts", STATE, () -> with(sizes), x -> x.two(s));
            }
            check.refusal("a local of 30 parts", STATE, () -> with(sizes), x -> x.local(0));
            check.refusal("a call of 30 parts", STATE, () -> with(sizes), Cellbrook::call);
        }
        Cellbrook x = with(14, 15);
        x.two(2);
        check.refused("it has 30 parts itself", x, STATE, x::draw);
    }

    private static void partsOfThree() {
        int[][] just = {{1, 1, 27}, {1, 27, 1}, {27, 1, 1}, {9, 10, 10}};
        int[][] many = {{1, 1, 28}, {1, 28, 1}, {28, 1, 1}, {10, 10, 10}, {30, 30, 30}};
        for (int[] sizes : just) {
            check.same("an if of 29 parts", with(sizes).choose(), 1);
        }
        for (int[] sizes : many) {
            check.refusal("an if of 30 parts", STATE, () -> with(sizes), Cellbrook::choose);
        }
        Cellbrook x = with(9, 10, 10);
        x.choose();
        check.refused("it has 30 parts itself", x, STATE, () -> x.function(0));
    }

    private static void names() {
        document.quote("Exprs", "Names are 0 to 15.");
        for (int name = 0; name < 16; name++) {
            Cellbrook x = new Cellbrook();
            x.cell();
            x.number(50 + name);
            check.same("name " + name + " can be defined", x.define(0, name), 1);
            check.same("name " + name + " is kept", x.value(0, name), 50 + name);
            x.cell();
            x.name(name);
            x.define(1, (name + 1) % 16);
            check.same("name " + name + " is read", x.reads(1), 1 << name);
            check.same("name " + name + " is found", x.value(1, (name + 1) % 16), 50 + name);
            x.number(3);
            x.name(name);
            x.local(name);
            x.define(1, (name + 1) % 16);
            check.same("name " + name + " of a local", x.value(1, (name + 1) % 16), 3);
            x.name(name);
            x.function(name);
            x.number(4);
            x.call();
            x.define(1, (name + 1) % 16);
            check.same("name " + name + " of a function", x.value(1, (name + 1) % 16), 4);
        }
    }

    private static void leaves() {
        document.quote("Exprs", "An expr is:");
        document.quote("Exprs", "- a number, a long; a name; an input, 0 to 3; a draw of n;");
        finds("a number", MAX, MAX);
        finds("a number", MIN, MIN);
        finds("a number", "4294967296", "4294967296");
        finds("a name", "d", "40");
        finds("an input", "i0", "11");
        finds("an input", "i3", MIN);
        check.refusal("an input", INDEX, () -> piled(1), x -> x.input(-1));
        check.refusal("an input", INDEX, () -> piled(1), x -> x.input(4));
        finds("a draw", "(draw 7)", Long.toString(ExprsTest.drawn(0, 1, 1, 7)));
        finds("a draw of a draw", "(draw (+ 1 (draw 7)))",
            Long.toString(ExprsTest.drawn(0, 1, 2, 1 + (int) ExprsTest.drawn(0, 1, 1, 7))));
    }

    private static void twos() {
        document.quote("Exprs",
            "- a sum, difference, product, or less (1 if the first one is less, otherwise 0) of two, 0 to 3, longs with overflow;");
        finds("a sum", "(+ 5 -8)", "-3");
        finds("a difference", "(- 5 -8)", "13");
        finds("a product", "(* 5 -8)", "-40");
        finds("less", "(< 5 -8)", "0");
        finds("less", "(< -8 5)", "1");
        finds("less: the same", "(< 5 5)", "0");
        finds("less: by one", "(< 5 6)", "1");
        finds("less: by one", "(< 6 5)", "0");
        finds("overflow", "(+ " + MAX + " 1)", MIN);
        finds("overflow", "(+ " + MIN + " " + MIN + ")", "0");
        finds("overflow", "(- " + MIN + " 1)", MAX);
        finds("overflow", "(- 0 " + MIN + ")", MIN);
        finds("overflow", "(* " + MAX + " " + MAX + ")", "1");
        finds("overflow", "(* " + MIN + " -1)", MIN);
        finds("overflow", "(* 4294967296 4294967296)", "0");
        finds("no overflow of an int", "(+ 2147483647 1)", "2147483648");
        finds("no overflow of an int", "(* 2147483647 2147483647)", "4611686014132420609");
        finds("less, without a difference that would overflow", "(< " + MIN + " 1)", "1");
        finds("less, without a difference that would overflow", "(< " + MAX + " -1)", "0");
        finds("less of longs", "(< 4294967296 1)", "0");
    }

    private static void ifs() {
        document.quote("Exprs", "- an if: the second one, if the first one is not 0, otherwise the third one;");
        finds("not 0", "(if 1 20 30)", "20");
        finds("not 0", "(if -1 20 30)", "20");
        finds("not 0, though it would be as an int", "(if 4294967296 20 30)", "20");
        finds("not 0", "(if " + MIN + " 20 30)", "20");
        finds("0", "(if 0 20 30)", "30");
        finds("0, found", "(if (- 3 3) 20 30)", "30");
        finds("one of both alone", "(if 1 20 (draw 0))", "20");
        finds("one of both alone", "(if 0 (draw 0) 30)", "30");
        finds("a function", "(call (if 1 f 0) 1)", "2");
    }

    private static void localsFunctionsCalls() {
        document.quote("Exprs", "- a local: a name, a value, and a body, in which the name is that value;"
            + " a function: a name and a body; a call of a function with a value.");
        finds("a local", "(let a 5 (* a a))", "25");
        finds("a local that is not used", "(let a 5 6)", "6");
        finds("a local's value is no body", "(let d (+ d 1) d)", "41");
        finds("a local that is a function", "(let a (fn b (* b 3)) (+ (call a 1) (call a 2)))", "9");
        finds("a function", "(fn a 1)", "function");
        finds("a call", "(call (fn a (- a 1)) 5)", "4");
        finds("a call with a function", "(call (fn a (call a 5)) (fn b (+ b 1)))", "6");
        finds("a call of what a call is", "(call (call (fn a (fn b (- a b))) 9) 4)", "5");
        finds("a function that is found by a call", "(call (fn a (fn b a)) 1)", "function");
    }

    private static void nearest() {
        document.quote("Exprs",
            "A name in a body is the nearest local or function's name around it, if there is one such; otherwise it is free.");
        finds("a local in a local", "(let a 1 (let a 2 a))", "2");
        finds("a local in a function", "(call (fn a (let a 2 a)) 1)", "2");
        finds("a function in a local", "(let a 1 (call (fn a a) 2))", "2");
        finds("a function in a function", "(call (call (fn a (fn a a)) 1) 2)", "2");
        finds("behind the local", "(+ (let d 1 d) d)", "41");
        finds("behind the function", "(+ (call (fn d d) 1) d)", "41");
        finds("another name in between", "(let a 1 (let b 2 (let c 3 a)))", "1");
        finds("around the function, not around its call", "(let a 1 (let g (fn b a) (let a 2 (call g 0))))", "1");
        finds("free", "(let a 1 d)", "40");
        Cellbrook x = Check.notebook(Cellbrook.BY_HAND, "p = (let a b (fn c (+ (+ a c) (+ d (let d 1 d)))))");
        check.same("free ones", x.reads(0), Check.names("bd"));
    }

    // Cells

    private static void numbered() {
        document.quote("Cells",
            "Cells are numbered from 0, at most 12; one that is removed is there no more, and its number is not given again.");
        Cellbrook x = new Cellbrook();
        for (int cell = 0; cell < 11; cell++) {
            check.same("a cell", x.cell(), cell);
        }
        x.remove(10);
        x.remove(0);
        check.refused("it is there no more", x, INDEX, () -> x.error(0));
        check.refused("it is there no more", x, INDEX, () -> x.error(10));
        check.same("the next number", x.cell(), 11);
        check.refused("there were 12", x, STATE, x::cell);
        for (int cell = 1; cell < 12; cell++) {
            if (cell != 10) {
                x.remove(cell);
            }
        }
        check.refused("there were 12, though none is there", x, STATE, x::cell);
    }

    private static void definitions() {
        document.quote("Cells", "A cell has definitions, at most 4, in order, each of a name that no other one of it has, by an expr.");
        Cellbrook x = Check.notebook(Cellbrook.AT_ONCE, "a = 1; b = (+ a 1); c = (+ b 1)");
        check.same("a fourth one", Check.define(x, 0, 'd', "(+ c 1)"), 4);
        check.same("in order", x.value(0, 3), 4);
        check.same("a name that it has: no other one", Check.define(x, 0, 'b', "(+ a 10)"), 4);
        check.same("in its order", x.value(0, 3), 13);
        x.number(5);
        check.refused("a fifth one", x, STATE, () -> x.define(0, 4));
        check.same("without one", x.drop(0, 0), 3);
        check.same("a fourth one again", x.define(0, 0), 4);
        check.same("behind all: what b reads, it defines behind that", x.error(0), 2);
    }

    private static void reads() {
        document.quote("Cells", "A cell defines these names; it reads the free names of its exprs,"
            + " but for those that it defines itself ahead of the definition in which they are free.");
        Cellbrook x = Check.notebook(Cellbrook.BY_HAND, "a = (+ p o); b = (+ a n); c = (fn m (+ m (+ b k)))", "d = a");
        check.same("but for those ahead", x.reads(0), Check.names("ponk"));
        check.same("another cell's", x.reads(1), Check.names("a"));
        x.drop(0, 0);
        check.same("not ahead any more", x.reads(0), Check.names("ank"));
        Check.define(x, 0, 'a', "1");
        check.same("behind", x.reads(0), Check.names("ank"));
        x.drop(0, 1);
        Check.define(x, 0, 'b', "a");
        check.same("in another order", x.reads(0), Check.names("bk"));
    }

    private static void readsItsOwn() {
        document.quote("Cells", "(One that it defines there, or behind that, it reads as well.)");
        Cellbrook x = Check.notebook(Cellbrook.AT_ONCE, "a = (fn b (call a b))", "c = d; d = 1", "e = 1; f = e", "p = 1; o = n; n = p");
        check.same("there", x.reads(0), Check.names("a"));
        check.same("behind that", x.reads(1), Check.names("d"));
        check.same("ahead", x.reads(2), 0);
        check.same("behind that, another one ahead", x.reads(3), Check.names("n"));
        check.same("it needs itself", x.error(0), 2);
        check.same("it needs itself", x.error(1), 2);
        check.same("it doesn't", x.error(2), 0);
        check.same("it needs itself", x.error(3), 2);
    }

    private static void needs() {
        document.quote("Cells", "A cell needs another one, or itself, if it reads a name that that one defines; and so on.");
        Cellbrook x = Check.notebook(Cellbrook.BY_HAND, "a = b", "b = c", "c = 1", "d = d", "e = d", "f = g", "c = f");
        check.same("and so on, all that define it", x.slice(0), Check.set(0, 1, 2, 5, 6));
        check.same("none", x.slice(2), Check.set(2));
        check.same("itself", x.slice(3), Check.set(3));
        check.same("another one", x.slice(4), Check.set(3, 4));
        check.same("a name that none defines", x.slice(5), Check.set(5));
        x.drop(1, 1);
        check.same("not defined any more", x.slice(0), Check.set(0));
    }

    private static void wrong() {
        document.quote("Cells", "A cell is wrong, by its code: 1 if it defines a name that another cell defines as well;"
            + " 2 if it needs itself, over others or not; 3 if it reads a name that no cell defines; the first of these counts.");
        Cellbrook x = Check.notebook(Cellbrook.AT_ONCE, "a = 1", "b = 2; a = 3", "c = c", "d = e", "e = d", "f = p", "g = 1",
            "h = (+ h p)", "i = (+ p 1); k = 1", "k = k", "l = (+ m p)", "m = (+ l 1)");
        int[] due = {1, 1, 2, 2, 2, 3, 0, 2, 1, 1, 2, 2};
        for (int cell = 0; cell < 12; cell++) {
            check.same("wrong, cell " + cell, x.error(cell), due[cell]);
        }
        x.drop(1, 0);
        check.same("not doubled any more", x.error(0) + x.error(1), 0);
        x.drop(9, 10);
        check.same("3, not doubled any more", x.error(8), 3);
        check.same("nothing is wrong", x.error(9), 0);
        x.remove(11);
        check.same("3, not in a ring any more", x.error(10), 3);
        x.number(1);
        x.define(6, 15);
        check.same("there is one now", x.error(5) + x.error(8), 0);
        check.same("in a ring still", x.error(7), 2);
        check.same("it reads m, which no cell defines", x.error(10), 3);
        Cellbrook y = Check.notebook(Cellbrook.AT_ONCE, "a = p", "b = a", "c = b");
        check.same("what reads it is not wrong", y.error(1) * 10 + y.error(2), 55);
    }

    // Exceptions

    private static Cellbrook some() {
        Cellbrook x = Check.notebook(Cellbrook.AT_ONCE, "a = 1", "b = a; c = 2");
        x.keep();
        x.remove(x.cell());
        x.name(0);
        x.number(7);
        x.number(9);
        return x;
    }

    private static void noSuch() {
        document.quote("Exceptions", "IndexOutOfBoundsException: there is no such cell, input, name or branch.");
        for (int cell : new int[] {-1, 2, 3, 12, Integer.MIN_VALUE, Integer.MAX_VALUE}) {
            check.refusal("drop of cell " + cell, INDEX, TermsTest::some, x -> x.drop(cell, 0));
            check.refusal("remove of cell " + cell, INDEX, TermsTest::some, x -> x.remove(cell));
            check.refusal("run of cell " + cell, INDEX, TermsTest::some, x -> x.run(cell));
            check.refusal("slice of cell " + cell, INDEX, TermsTest::some, x -> x.slice(cell));
        }
        for (int wrong : new int[] {-1, 16, Integer.MIN_VALUE, Integer.MAX_VALUE}) {
            check.refusal("input " + wrong, INDEX, TermsTest::some, x -> x.setInput(wrong, 1));
            check.refusal("name " + wrong, INDEX, TermsTest::some, x -> x.name(wrong));
            check.refusal("branch " + wrong, INDEX, TermsTest::some, x -> x.differ(wrong));
        }
        check.refusal("input 4", INDEX, TermsTest::some, x -> x.setInput(4, 1));
        check.refusal("branch 1", INDEX, TermsTest::some, x -> x.differ(1));
    }

    private static void outOfRange() {
        document.quote("Exceptions", "IllegalArgumentException: another argument is out of its range.");
        for (int wrong : new int[] {-1, 4, Integer.MIN_VALUE, Integer.MAX_VALUE}) {
            check.refusal("sign " + wrong, ARGUMENT, TermsTest::some, x -> x.two(wrong));
            check.refusal("mode " + wrong, ARGUMENT, TermsTest::some, x -> x.mode(wrong));
        }
        check.refusal("mode 3", ARGUMENT, TermsTest::some, x -> x.mode(3));
    }

    private static void asTold() {
        document.quote("Exceptions", "IllegalStateException: as the method tells.");
        check.refusal("too few", STATE, () -> with(1), Cellbrook::call);
        check.refusal("not defined", STATE, TermsTest::some, x -> x.drop(0, 1));
        check.refusal("in use", STATE, TermsTest::some, x -> x.rename(0, 1));
        check.refusal("no number", STATE, TermsTest::some, x -> x.value(0, 1));
    }

    private static void severalApply() {
        document.quote("Exceptions", "If several apply, the one that is named first in the throws clause is thrown;");
        check.refusal("name, the pile is full", INDEX, () -> piled(20), x -> x.name(16));
        check.refusal("input, the pile is full", INDEX, () -> piled(20), x -> x.input(4));
        check.refusal("two, too few", ARGUMENT, () -> piled(1), x -> x.two(4));
        check.refusal("two, too many parts", ARGUMENT, () -> with(20, 20), x -> x.two(-1));
        check.refusal("local, too few", INDEX, () -> piled(1), x -> x.local(16));
        check.refusal("local, too many parts", INDEX, () -> with(20, 20), x -> x.local(-1));
        check.refusal("function, too few", INDEX, () -> piled(0), x -> x.function(16));
        check.refusal("function, too many parts", INDEX, () -> with(30), x -> x.function(-1));
        check.refusal("define, the pile is empty", INDEX, () -> piled(0), x -> x.define(1, 0));
        check.refusal("define, the pile is empty", INDEX, () -> piled(0), x -> x.define(0, 16));
        check.refusal("define, it has 4", INDEX, TermsTest::four, x -> x.define(0, 16));
        check.refusal("define, it has 4", INDEX, TermsTest::four, x -> x.define(1, 5));
        check.refusal("rename, both the same", INDEX, TermsTest::some, x -> x.rename(16, 16));
        check.refusal("rename, the other one is in use", INDEX, TermsTest::some, x -> x.rename(16, 1));
        check.refusal("rename, the first one is in use", INDEX, TermsTest::some, x -> x.rename(0, 16));
    }

    private static Cellbrook four() {
        Cellbrook x = Check.notebook(Cellbrook.AT_ONCE, "a = 1; b = 2; c = 3; d = 4");
        x.number(5);
        return x;
    }

    private static void changesNothing() {
        document.quote("Exceptions", "a call that throws changes nothing.");
        // Refused behind a change by hand: what is stale stays so, and nothing is run by that.
        check.refusal("by hand", STATE, TermsTest::byHand, x -> x.drop(0, 5));
        check.refusal("by hand", STATE, TermsTest::byHand, x -> x.rename(0, 0));
        check.refusal("by hand", INDEX, TermsTest::byHand, x -> x.run(2));
        check.refusal("by hand", INDEX, TermsTest::byHand, x -> x.take(0, 2) ? 1 : 0);
        check.refusal("by hand", INDEX, TermsTest::byHand, x -> x.take(1, 0) ? 1 : 0);
        check.refusal("by hand", ARGUMENT, TermsTest::byHand, x -> x.mode(-1));
        check.no("a change would be told", Check.goOn(byHand()).equals(Check.goOn(changed())));
    }

    private static Cellbrook byHand() {
        Cellbrook x = Check.notebook(Cellbrook.BY_HAND, "a = i0", "b = a");
        x.run(0);
        x.run(1);
        x.keep();
        x.setInput(0, 5);
        x.number(3);
        x.seed(8);
        return x;
    }

    private static Cellbrook changed() {
        Cellbrook x = byHand();
        x.draw();
        return x;
    }

    private static void constants() {
        document.quote("Exceptions", "The constants: `NONE = -1`: There is none.");
        check.same("NONE", Cellbrook.NONE, -1);
        document.quote("Exceptions", "`AT_ONCE = 0, BY_NEED = 1, BY_HAND = 2`: How cells are run.");
        check.same("AT_ONCE", Cellbrook.AT_ONCE, 0);
        check.same("BY_NEED", Cellbrook.BY_NEED, 1);
        check.same("BY_HAND", Cellbrook.BY_HAND, 2);
        document.quote("Exceptions", "`NOTHING = 0, NUMBER = 1, FUNCTION = 2`: What is kept.");
        check.same("NOTHING", Cellbrook.NOTHING, 0);
        check.same("NUMBER", Cellbrook.NUMBER, 1);
        check.same("FUNCTION", Cellbrook.FUNCTION, 2);
    }
}
