/** The sentences of promises 1 to 31, what they return and when they throw, each with a test of its own. */
public final class PromisesTest {
    private static final Check check = new Check("PromisesTest");
    private static final Document document = new Document(check);
    private static final Class<IllegalStateException> STATE = IllegalStateException.class;
    private static final Class<IllegalArgumentException> ARGUMENT = IllegalArgumentException.class;
    private static final Class<IndexOutOfBoundsException> INDEX = IndexOutOfBoundsException.class;
    private static final int A = 0, B = 1, C = 2, D = 3, E = 4, P = 15;
    private static final int[] NO_CELLS = {-1, 2, 3, 12, Integer.MIN_VALUE, Integer.MAX_VALUE};
    private static final int[] NO_NAMES = {-1, 16, Integer.MIN_VALUE, Integer.MAX_VALUE};
    private static final int[] NO_INPUTS = {-1, 4, Integer.MIN_VALUE, Integer.MAX_VALUE};

    private static int promise;

    public static void main(String[] args) {
        newObject();
        number();
        name();
        input();
        draw();
        two();
        choose();
        local();
        function();
        call();
        cell();
        define();
        defineRefused();
        drop();
        remove();
        rename();
        renameRefused();
        setInput();
        seed();
        mode();
        run();
        keep();
        take();
        takeRefused();
        differ();
        error();
        isStale();
        kind();
        value();
        valueAnew();
        errorAnew();
        reads();
        slice();
        runs();
        for (int each = 1; each <= 31; each++) {
            document.allIsQuoted("Promise " + each);
        }
        check.end();
    }

    private static void says(int of, String words) {
        promise = of;
        document.quote("Promise " + of, words);
    }

    private static void refuses(String what, Class<? extends RuntimeException> due, Check.Start start, Check.Act act) {
        check.refusal(promise + ": " + what, due, start, act);
    }

    /** A cell, and so many numbers on the pile. */
    private static Cellbrook piled(int count) {
        Cellbrook x = new Cellbrook();
        x.cell();
        for (int i = 0; i < count; i++) {
            x.number(1000 + i);
        }
        return x;
    }

    /** A cell, and exprs of so many parts on the pile. */
    private static Cellbrook sized(int... sizes) {
        Cellbrook x = new Cellbrook();
        x.cell();
        for (int size : sizes) {
            TermsTest.sized(x, size);
        }
        return x;
    }

    /** Two cells that are there, 0 and 1, and one that was removed, 2; a branch with the first two; exprs on the pile. */
    private static Cellbrook some() {
        Cellbrook x = Check.notebook(Cellbrook.AT_ONCE, "a = (+ i0 1); b = (fn c c)", "d = (let e a (* e 2))");
        x.keep();
        x.remove(x.cell());
        x.name(B);
        x.number(7);
        return x;
    }

    private static void newObject() {
        says(1, "Begins without cells, in the mode AT_ONCE; inputs and the seed are 0.");
        Cellbrook x = new Cellbrook();
        for (int cell = 0; cell < 12; cell++) {
            int c = cell;
            check.refused("1: no cell", x, INDEX, () -> x.runs(c));
        }
        check.same("1: the mode", new Cellbrook().mode(Cellbrook.BY_NEED), Cellbrook.AT_ONCE);
        check.same("1: the seed", new Cellbrook().seed(9), 0);
        for (int input = 0; input < 4; input++) {
            check.same("1: an input", new Cellbrook().setInput(input, 9), 0);
        }
        check.same("1: at once, the inputs and the seed", Check.notebook(Cellbrook.AT_ONCE,
            "a = (+ (draw 60000) (+ (+ i0 i1) (+ i2 i3)))").value(0, A), ExprsTest.drawn(0, 0, 1, 60000));
        check.refused("1: nothing is on the pile", x, STATE, x::draw);
        check.refused("1: no branch", x, INDEX, () -> x.differ(0));
    }

    // exprs

    private static void number() {
        says(2, "Puts a number on the pile.");
        for (long number : new long[] {0, 1, -1, Integer.MAX_VALUE + 1L, Long.MIN_VALUE, Long.MAX_VALUE}) {
            Cellbrook x = piled(3);
            x.number(number);
            x.define(0, A);
            check.same("2: a number", x.value(0, A), number);
        }
        says(2, "Returns how many exprs it has then.");
        for (int count = 0; count < 20; count++) {
            check.same("2: how many", piled(count).number(5), count + 1);
        }
        says(2, "Throws `IllegalStateException` if it has 20");
        refuses("20", STATE, () -> piled(20), x -> x.number(5));
    }

    private static void name() {
        says(3, "Puts a name on the pile.");
        for (int name = 0; name < 16; name++) {
            Cellbrook x = piled(3);
            x.name(name);
            x.define(0, name);
            check.same("3: a name", x.reads(0), 1 << name);
        }
        says(3, "Returns how many exprs it has then.");
        for (int count = 0; count < 20; count++) {
            check.same("3: how many", piled(count).name(5), count + 1);
        }
        says(3, "Throws `IndexOutOfBoundsException` as told");
        for (int name : NO_NAMES) {
            refuses("name " + name, INDEX, () -> piled(3), x -> x.name(name));
            refuses("name " + name + ", 20", INDEX, () -> piled(20), x -> x.name(name));
        }
        says(3, "Throws `IllegalStateException` if it has 20");
        refuses("20", STATE, () -> piled(20), x -> x.name(0));
        refuses("20", STATE, () -> piled(20), x -> x.name(15));
    }

    private static void input() {
        says(4, "Puts an input on the pile.");
        for (int input = 0; input < 4; input++) {
            Cellbrook x = piled(3);
            x.setInput(input, 77 + input);
            x.input(input);
            x.define(0, A);
            check.same("4: an input", x.value(0, A), 77 + input);
        }
        says(4, "Returns how many exprs it has then.");
        for (int count = 0; count < 20; count++) {
            check.same("4: how many", piled(count).input(3), count + 1);
        }
        says(4, "Throws `IndexOutOfBoundsException` as told");
        for (int input : NO_INPUTS) {
            refuses("input " + input, INDEX, () -> piled(3), x -> x.input(input));
            refuses("input " + input + ", 20", INDEX, () -> piled(20), x -> x.input(input));
        }
        says(4, "Throws `IllegalStateException` if it has 20");
        refuses("20", STATE, () -> piled(20), x -> x.input(0));
        refuses("20", STATE, () -> piled(20), x -> x.input(3));
    }

    private static void draw() {
        says(5, "Makes a draw of the top expr.");
        Cellbrook x = piled(2);
        x.draw();
        x.define(0, A);
        check.same("5: of the top expr", x.value(0, A), ExprsTest.drawn(0, 0, 1, 1001));
        x.define(0, A);
        check.same("5: not of the one below", x.value(0, A), 1000);
        says(5, "Returns how many exprs the pile has then.");
        check.same("5: of one", piled(1).draw(), 1);
        check.same("5: of 20", piled(20).draw(), 20);
        says(5, "Throws `IllegalStateException` if it is empty, or the expr would have more than 30 parts");
        refuses("empty", STATE, () -> piled(0), Cellbrook::draw);
        refuses("31 parts", STATE, () -> sized(1, 30), Cellbrook::draw);
        check.same("5: 30 parts", sized(30, 29).draw(), 2);
    }

    private static void two() {
        says(6, "Makes a sum, difference, product or less of the top two exprs, the lower one first.");
        long[] due = {13, 7, 30, 0};
        for (int sign = 0; sign < 4; sign++) {
            Cellbrook x = piled(1);
            x.number(10);
            x.number(3);
            check.same("6: of the top two", x.two(sign), 2);
            x.define(0, A);
            check.same("6: the lower one first", x.value(0, A), due[sign]);
            x.define(0, A);
            check.same("6: not the one below", x.value(0, A), 1000);
        }
        says(6, "- `sign`: 0 to 3");
        says(6, "Throws `IllegalArgumentException` if sign is out of range");
        for (int sign : new int[] {-1, 4, Integer.MIN_VALUE, Integer.MAX_VALUE}) {
            refuses("sign " + sign, ARGUMENT, () -> piled(3), x -> x.two(sign));
            refuses("sign " + sign + ", one", ARGUMENT, () -> piled(1), x -> x.two(sign));
            refuses("sign " + sign + ", parts", ARGUMENT, () -> sized(30, 30), x -> x.two(sign));
        }
        says(6, "Returns how many exprs the pile has then.");
        check.same("6: of two", piled(2).two(0), 1);
        check.same("6: of 20", piled(20).two(3), 19);
        says(6, "Throws `IllegalStateException` if there are not two, or it would have more than 30 parts");
        refuses("empty", STATE, () -> piled(0), x -> x.two(0));
        refuses("one", STATE, () -> piled(1), x -> x.two(3));
        refuses("31 parts", STATE, () -> sized(1, 12, 18), x -> x.two(2));
        check.same("6: 30 parts", sized(30, 12, 17).two(2), 2);
    }

    private static void choose() {
        says(7, "Makes an if of the top three exprs, the lowest one first.");
        Cellbrook x = piled(1);
        x.input(0);
        x.number(2);
        x.number(3);
        x.choose();
        x.define(0, A);
        check.same("7: 0: the third one", x.value(0, A), 3);
        x.setInput(0, -1);
        check.same("7: not 0: the second one", x.value(0, A), 2);
        x.define(0, A);
        check.same("7: not the one below", x.value(0, A), 1000);
        says(7, "Returns how many exprs the pile has then.");
        check.same("7: of three", piled(3).choose(), 1);
        check.same("7: of 20", piled(20).choose(), 18);
        says(7, "Throws `IllegalStateException` if there are not three, or it would have more than 30 parts");
        refuses("empty", STATE, () -> piled(0), Cellbrook::choose);
        refuses("one", STATE, () -> piled(1), Cellbrook::choose);
        refuses("two", STATE, () -> piled(2), Cellbrook::choose);
        refuses("31 parts", STATE, () -> sized(1, 8, 9, 13), Cellbrook::choose);
        check.same("7: 30 parts", sized(30, 8, 9, 12).choose(), 2);
    }

    private static void local() {
        says(8, "Makes a local of the top two exprs: the value, and the body above it.");
        Cellbrook x = piled(1);
        x.number(5);
        x.name(P);
        x.name(A);
        x.two(1);
        check.same("8: of the top two", x.local(P), 2);
        x.define(0, B);
        check.same("8: the name is bound in the body", x.reads(0), Check.names("a"));
        x.define(0, B);
        check.same("8: not the one below", x.value(0, B), 1000);
        x.name(P);
        x.number(5);
        x.local(P);
        x.define(0, B);
        check.same("8: the name is free in the value", x.reads(0), Check.names("p"));
        says(8, "Returns how many exprs the pile has then.");
        check.same("8: of two", piled(2).local(0), 1);
        check.same("8: of 20", piled(20).local(15), 19);
        says(8, "Throws `IndexOutOfBoundsException` as told");
        for (int name : NO_NAMES) {
            refuses("name " + name, INDEX, () -> piled(3), y -> y.local(name));
            refuses("name " + name + ", one", INDEX, () -> piled(1), y -> y.local(name));
            refuses("name " + name + ", parts", INDEX, () -> sized(30, 30), y -> y.local(name));
        }
        says(8, "Throws `IllegalStateException` if there are not two, or it would have more than 30 parts");
        refuses("empty", STATE, () -> piled(0), y -> y.local(0));
        refuses("one", STATE, () -> piled(1), y -> y.local(15));
        refuses("31 parts", STATE, () -> sized(1, 12, 18), y -> y.local(0));
        check.same("8: 30 parts", sized(30, 12, 17).local(0), 2);
    }

    private static void function() {
        says(9, "Makes a function of the top expr as its body.");
        Cellbrook x = piled(2);
        x.function(P);
        x.define(0, A);
        check.same("9: a function", x.kind(0, A), Cellbrook.FUNCTION);
        Check.define(x, 0, 'b', "(call a 3)");
        check.same("9: the top expr is its body", x.value(0, B), 1001);
        x.define(0, B);
        check.same("9: not the one below", x.value(0, B), 1000);
        says(9, "Returns how many exprs the pile has then.");
        check.same("9: of one", piled(1).function(0), 1);
        check.same("9: of 20", piled(20).function(15), 20);
        says(9, "Throws `IndexOutOfBoundsException` as told");
        for (int name : NO_NAMES) {
            refuses("name " + name, INDEX, () -> piled(3), y -> y.function(name));
            refuses("name " + name + ", empty", INDEX, () -> piled(0), y -> y.function(name));
            refuses("name " + name + ", parts", INDEX, () -> sized(30), y -> y.function(name));
        }
        says(9, "Throws `IllegalStateException` if it is empty, or it would have more than 30 parts");
        refuses("empty", STATE, () -> piled(0), y -> y.function(0));
        refuses("31 parts", STATE, () -> sized(1, 30), y -> y.function(0));
        check.same("9: 30 parts", sized(30, 29).function(0), 2);
    }

    private static void call() {
        says(10, "Makes a call of the top two exprs: what is called, and the value above it.");
        Cellbrook x = piled(1);
        Check.put(x, "(fn p (- 100 p))");
        x.number(5);
        check.same("10: of the top two", x.call(), 2);
        x.define(0, A);
        check.same("10: what is called, and the value", x.value(0, A), 95);
        x.define(0, A);
        check.same("10: not the one below", x.value(0, A), 1000);
        x.number(5);
        Check.put(x, "(fn p (- 100 p))");
        x.call();
        x.define(0, A);
        check.same("10: the other way round", x.error(0), 4);
        says(10, "Returns how many exprs the pile has then.");
        check.same("10: of two", piled(2).call(), 1);
        check.same("10: of 20", piled(20).call(), 19);
        says(10, "Throws `IllegalStateException` if there are not two, or it would have more than 30 parts");
        refuses("empty", STATE, () -> piled(0), Cellbrook::call);
        refuses("one", STATE, () -> piled(1), Cellbrook::call);
        refuses("31 parts", STATE, () -> sized(1, 12, 18), Cellbrook::call);
        check.same("10: 30 parts", sized(30, 12, 17).call(), 2);
    }

    // cells

    private static void cell() {
        says(11, "Makes a cell without definitions.");
        Cellbrook x = piled(2);
        int made = x.cell();
        check.same("11: it reads nothing", x.reads(made), 0);
        check.same("11: it has no error", x.error(made), 0);
        check.same("11: its first definition", x.define(made, A), 1);
        check.same("11: the pile stays", x.number(1), 2);
        says(11, "Returns its number.");
        Cellbrook y = new Cellbrook();
        for (int cell = 0; cell < 12; cell++) {
            check.same("11: its number", y.cell(), cell);
        }
        says(11, "Throws `IllegalStateException` if there were 12");
        check.refused("11: 12 are there", y, STATE, y::cell);
        y.remove(11);
        y.remove(3);
        check.refused("11: there were 12, though 10 are there", y, STATE, y::cell);
        Cellbrook z = new Cellbrook();
        for (int cell = 0; cell < 12; cell++) {
            z.remove(z.cell());
        }
        check.refused("11: there were 12, though none is there", z, STATE, z::cell);
    }

    private static void define() {
        says(12, "Lets a cell define a name by the top expr, which is taken,"
            + " in the place of its definition of it, or behind all.");
        Cellbrook x = piled(5);
        x.define(0, P);
        check.same("12: the top expr", x.value(0, P), 1004);
        x.define(0, A);
        check.same("12: which is taken", x.value(0, A), 1003);
        check.same("12: the first one stays", x.value(0, P), 1004);
        Check.define(x, 0, 'b', "(+ a p)");
        check.same("12: behind all", x.value(0, B), 2007);
        x.define(0, P);
        check.same("12: in its place", x.value(0, B), 2005);
        check.same("12: it is one as before", x.reads(0), 0);
        says(12, "Returns how many definitions the cell has then.");
        Cellbrook y = Check.notebook(Cellbrook.BY_HAND, "");
        check.same("12: one", Check.define(y, 0, 'a', "1"), 1);
        check.same("12: the same name", Check.define(y, 0, 'a', "2"), 1);
        check.same("12: two", Check.define(y, 0, 'p', "1"), 2);
        check.same("12: three", Check.define(y, 0, 'c', "1"), 3);
        check.same("12: four", Check.define(y, 0, 'd', "1"), 4);
        for (char name : new char[] {'a', 'p', 'c', 'd'}) {
            check.same("12: of one that is there, with four", Check.define(y, 0, name, "5"), 4);
        }
    }

    private static Cellbrook four() {
        Cellbrook x = Check.notebook(Cellbrook.AT_ONCE, "a = 1; b = 2; c = 3; d = 4", "e = 5");
        x.number(6);
        return x;
    }

    private static void defineRefused() {
        says(12, "Throws `IndexOutOfBoundsException` as told, of the cell or the name");
        for (int cell : NO_CELLS) {
            refuses("cell " + cell, INDEX, PromisesTest::some, x -> x.define(cell, A));
            refuses("cell " + cell + ", empty", INDEX, () -> piled(0), x -> x.define(cell, A));
        }
        for (int name : NO_NAMES) {
            refuses("name " + name, INDEX, PromisesTest::some, x -> x.define(0, name));
            refuses("name " + name + ", empty", INDEX, () -> piled(0), x -> x.define(0, name));
            refuses("name " + name + ", it has 4", INDEX, PromisesTest::four, x -> x.define(0, name));
        }
        says(12, "Throws `IllegalStateException` if the pile is empty, or the cell has 4, none of the name");
        refuses("empty", STATE, () -> piled(0), x -> x.define(0, A));
        refuses("empty, of a name that it has", STATE,
            () -> Check.notebook(Cellbrook.AT_ONCE, "a = 1"), x -> x.define(0, A));
        for (int name = 4; name < 16; name++) {
            int n = name;
            refuses("it has 4", STATE, PromisesTest::four, x -> x.define(0, n));
        }
        check.same("12: it has 4, one of the name", four().define(0, D), 4);
        check.same("12: another one has 4", four().define(1, B), 2);
    }

    private static void drop() {
        says(13, "Takes a definition out of a cell.");
        String[] names = {"a", "b", "c", "d"};
        for (int name = 0; name < 4; name++) {
            Cellbrook x = four();
            x.drop(0, name);
            check.same("13: nothing is kept of it", x.kind(0, name), Cellbrook.NOTHING);
            for (int other = 0; other < 4; other++) {
                check.same("13: the others stay, " + names[other], x.kind(0, other), other == name ? 0 : 1);
            }
            check.same("13: its place is free", x.define(0, P), 4);
            check.same("13: the pile stays but for that", x.number(1), 1);
        }
        Cellbrook y = Check.notebook(Cellbrook.AT_ONCE, "a = 1; b = 2; c = (+ a b)");
        y.drop(0, B);
        check.same("13: another one reads it now", y.reads(0), Check.names("b"));
        y.drop(0, A);
        check.same("13: and this one", y.reads(0), Check.names("ab"));
        says(13, "Returns how many definitions the cell has then.");
        Cellbrook z = four();
        for (int left = 3; left >= 0; left--) {
            check.same("13: how many", z.drop(0, left), left);
        }
        says(13, "Throws `IndexOutOfBoundsException` as told, of the cell or the name");
        for (int cell : NO_CELLS) {
            refuses("cell " + cell, INDEX, PromisesTest::some, x -> x.drop(cell, A));
        }
        for (int name : NO_NAMES) {
            refuses("name " + name, INDEX, PromisesTest::some, x -> x.drop(0, name));
        }
        says(13, "Throws `IllegalStateException` if it does not define the name");
        refuses("another one's", STATE, PromisesTest::some, x -> x.drop(0, D));
        refuses("a local's", STATE, PromisesTest::some, x -> x.drop(1, E));
        refuses("one that it reads", STATE, PromisesTest::some, x -> x.drop(1, A));
        refuses("nobody's", STATE, PromisesTest::some, x -> x.drop(0, P));
        refuses("without definitions", STATE, () -> piled(1), x -> x.drop(0, A));
    }

    private static void remove() {
        says(14, "Removes a cell.");
        Cellbrook x = Check.notebook(Cellbrook.AT_ONCE, "a = 1", "b = a", "c = 2");
        x.remove(0);
        check.refused("14: it is there no more", x, INDEX, () -> x.value(0, A));
        check.same("14: what it defined is not defined", x.error(1), 3);
        check.same("14: the others stay", x.value(2, C), 2);
        check.same("14: it is needed no more", x.slice(1), Check.set(1));
        says(14, "Returns how many cells are there then.");
        Cellbrook y = new Cellbrook();
        for (int cell = 0; cell < 12; cell++) {
            y.cell();
        }
        int[] order = {5, 0, 11, 1, 2, 3, 4, 6, 7, 10, 9, 8};
        for (int i = 0; i < 12; i++) {
            check.same("14: how many", y.remove(order[i]), 11 - i);
        }
        says(14, "Throws `IndexOutOfBoundsException` as told");
        for (int cell : NO_CELLS) {
            refuses("cell " + cell, INDEX, PromisesTest::some, z -> z.remove(cell));
        }
        check.refused("14: without cells", y, INDEX, () -> y.remove(0));
    }

    private static void rename() {
        says(15, "Renames a name through all cells, if some cell defines it: where it is defined, and where it is free;"
            + " the names of locals and functions stay, the pile, branches and what is kept as well.");
        Cellbrook x = Check.notebook(Cellbrook.BY_HAND, "a = 5", "b = (+ a (let a (+ a 1) (* a 10)))",
            "c = (call (fn a (- a 1)) a)", "d = (fn e (+ e a)); f = d");
        for (int cell = 0; cell < 4; cell++) {
            x.run(cell);
        }
        x.keep();
        x.name(A);
        x.rename(A, P);
        check.same("15: where it is free", x.reads(1), Check.names("p"));
        check.same("15: where it is free", x.reads(2), Check.names("p"));
        check.same("15: where it is free", x.reads(3), Check.names("p"));
        check.same("15: what is kept stays", x.value(0, A), 5);
        check.same("15: what is kept stays", x.kind(0, P), Cellbrook.NOTHING);
        check.same("15: branches stay", x.differ(0), Check.set(0, 1, 2, 3));
        check.same("15: anew, by the new name", x.valueAnew(0, P), 5);
        check.same("15: the local stays", x.valueAnew(1, B), 65);
        check.same("15: the function's name stays", x.valueAnew(2, C), 4);
        x.define(3, 'g' - 'a');
        check.same("15: the pile stays", x.reads(3), Check.names("ap"));
        x.take(0, 1);
        check.same("15: branches stay", x.reads(1), Check.names("a"));

        says(15, "Returns how many definitions and free names were renamed.");
        Cellbrook y = Check.notebook(Cellbrook.AT_ONCE, "a = 1; b = (+ a a)", "c = (let d a (fn e (+ a (let a a a))))", "k = 1",
            "l = (fn a a)");
        check.same("15: one and five", y.rename(A, P), 6);
        check.same("15: one, and one in another cell", y.rename(B, 13), 1);
        check.same("15: not that of locals", y.rename(D, 14), 0);
        check.same("15: a name that is free, but not defined", Check.notebook(Cellbrook.AT_ONCE, "a = b").rename(B, P), 0);
        check.same("15: a name that is nowhere", y.rename(14, 12), 0);
        check.same("15: doubled ones", Check.notebook(Cellbrook.AT_ONCE, "a = 1", "a = a").rename(A, P), 3);
    }

    private static void renameRefused() {
        says(15, "Throws `IndexOutOfBoundsException` as told, of either name");
        for (int name : NO_NAMES) {
            refuses("name " + name, INDEX, PromisesTest::some, x -> x.rename(name, P));
            refuses("other " + name, INDEX, PromisesTest::some, x -> x.rename(A, name));
            refuses("both " + name, INDEX, PromisesTest::some, x -> x.rename(name, name));
            refuses("name " + name + ", in use", INDEX, PromisesTest::some, x -> x.rename(name, A));
            refuses("other " + name + ", not defined", INDEX, PromisesTest::some, x -> x.rename(P, name));
        }
        says(15, "Throws `IllegalStateException` if the other name is in some cell, in whatever way, or both are the same");
        refuses("defined", STATE, PromisesTest::some, x -> x.rename(A, B));
        refuses("defined in another cell", STATE, PromisesTest::some, x -> x.rename(A, D));
        refuses("a function's", STATE, PromisesTest::some, x -> x.rename(A, C));
        refuses("a local's", STATE, PromisesTest::some, x -> x.rename(A, E));
        refuses("free", STATE, PromisesTest::some, x -> x.rename(D, A));
        refuses("free, not defined", STATE, () -> Check.notebook(Cellbrook.AT_ONCE, "a = p"), x -> x.rename(A, P));
        refuses("a local's that is not read", STATE,
            () -> Check.notebook(Cellbrook.AT_ONCE, "a = (let p 1 2)"), x -> x.rename(A, P));
        refuses("a function's that is not read", STATE,
            () -> Check.notebook(Cellbrook.AT_ONCE, "a = (fn p 2)"), x -> x.rename(A, P));
        refuses("in use, the name not defined", STATE, PromisesTest::some, x -> x.rename(P, A));
        refuses("both the same", STATE, PromisesTest::some, x -> x.rename(A, A));
        refuses("both the same, in no cell", STATE, PromisesTest::some, x -> x.rename(P, P));
        Cellbrook y = some();
        y.remove(1);
        check.same("15: a branch or the pile alone has it, or a removed cell", y.rename(A, D), 1);
    }

    // resources, running

    private static void setInput() {
        says(16, "Sets an input.");
        Cellbrook x = Check.notebook(Cellbrook.AT_ONCE, "a = i0", "b = i1", "c = i2", "d = i3");
        for (int input = 0; input < 4; input++) {
            x.setInput(input, 10 + input);
        }
        for (int input = 0; input < 4; input++) {
            check.same("16: each of them", x.value(input, input), 10 + input);
        }
        says(16, "Returns what it was.");
        for (int input = 0; input < 4; input++) {
            check.same("16: what it was", x.setInput(input, Long.MIN_VALUE + input), 10 + input);
            check.same("16: what it was", x.setInput(input, Long.MAX_VALUE), Long.MIN_VALUE + input);
            check.same("16: the same again", x.setInput(input, Long.MAX_VALUE), Long.MAX_VALUE);
            check.same("16: set", x.value(input, input), Long.MAX_VALUE);
        }
        says(16, "Throws `IndexOutOfBoundsException` as told");
        for (int input : NO_INPUTS) {
            refuses("input " + input, INDEX, PromisesTest::some, y -> y.setInput(input, 5));
        }
    }

    private static void seed() {
        says(17, "Sets the seed.");
        Cellbrook x = Check.notebook(Cellbrook.AT_ONCE, "a = (draw 60000)");
        int before = 0;
        for (int seed : new int[] {1, -1, Integer.MAX_VALUE, Integer.MIN_VALUE, 0}) {
            int was = x.seed(seed);
            check.same("17: set", x.value(0, A), ExprsTest.drawn(seed, 0, 1, 60000));
            says(17, "Returns what it was.");
            check.same("17: what it was", was, before);
            before = seed;
        }
    }

    private static void mode() {
        says(18, "Sets the mode.");
        says(18, "- `mode`: AT_ONCE to BY_HAND");
        says(18, "Returns the mode before.");
        int[] modes = {0, 1, 2, 0, 2, 1, 0, 0, 1, 1, 2, 2};
        Cellbrook x = Check.notebook(Cellbrook.AT_ONCE, "a = i0", "b = (* 0 a)");
        int before = 0;
        for (int mode : modes) {
            check.same("18: the mode before", x.mode(mode), before);
            x.setInput(0, x.setInput(0, 0) + 1);
            check.same("18: at once all is run", x.isStale(0) ? 1 : 0, mode == 0 ? 0 : 1);
            check.same("18: by need two are run, by hand one", x.run(1), mode == 0 ? 0 : mode == 1 ? 2 : 1);
            check.same("18: by need the first is run, by hand it isn't", x.isStale(0) ? 1 : 0, mode == 2 ? 1 : 0);
            before = mode;
        }
        says(18, "Throws `IllegalArgumentException` if mode is out of range");
        for (int mode : new int[] {-1, 3, Integer.MIN_VALUE, Integer.MAX_VALUE}) {
            refuses("mode " + mode, ARGUMENT, PromisesTest::some, y -> y.mode(mode));
        }
    }

    private static void run() {
        says(19, "Runs a cell, as told for the mode.");
        says(19, "Returns how many cells were run by that.");
        String[] cells = {"a = i0", "b = (+ a 1)", "c = (+ b 1)", "d = (+ d a)"};
        Cellbrook x = Check.notebook(Cellbrook.AT_ONCE, cells);
        check.same("19: none", x.run(0) + x.run(1) + x.run(2) + x.run(3), 0);
        Cellbrook y = Check.notebook(Cellbrook.BY_NEED, cells);
        check.same("19: all that it needs", y.run(2), 3);
        check.same("19: none", y.run(2), 0);
        check.same("19: a wrong one is none", y.run(3), 0);
        Cellbrook z = Check.notebook(Cellbrook.BY_HAND, cells);
        check.same("19: one", z.run(2), 1);
        check.same("19: one, again", z.run(2), 1);
        check.same("19: a wrong one is none", z.run(3), 0);
        check.same("19: it has its error", z.error(3), 2);
        says(19, "Throws `IndexOutOfBoundsException` as told");
        for (int cell : NO_CELLS) {
            refuses("cell " + cell, INDEX, PromisesTest::some, w -> w.run(cell));
            refuses("by hand, cell " + cell, INDEX, () -> {
                Cellbrook w = some();
                w.mode(Cellbrook.BY_HAND);
                return w;
            }, w -> w.run(cell));
        }
    }

    // branches

    private static void keep() {
        says(20, "Keeps the code of all cells as a branch.");
        Cellbrook x = Check.notebook(Cellbrook.AT_ONCE, "a = 1; b = 2", "c = a", "");
        x.remove(2);
        x.setInput(0, 4);
        check.same("20: its number", x.keep(), 0);
        check.same("20: all is kept", x.differ(0), 0);
        Check.define(x, 0, 'a', "5");
        x.drop(1, C);
        check.same("20: what is changed later is not", x.differ(0), Check.set(0, 1));
        x.take(0, 0);
        x.take(0, 1);
        check.same("20: all definitions", x.value(0, B) * 10 + x.value(1, C), 21);
        check.same("20: the code alone", x.setInput(0, 0), 4);
        says(20, "Returns its number.");
        for (int branch = 1; branch < 4; branch++) {
            check.same("20: its number", x.keep(), branch);
        }
        says(20, "Throws `IllegalStateException` if there are 4");
        check.refused("20: 4", x, STATE, x::keep);
        x.remove(0);
        x.remove(1);
        check.refused("20: 4, without cells", x, STATE, x::keep);
    }

    private static void take() {
        says(21, "Takes the code of a cell from a branch, in which it is there, or not (then it is removed);"
            + " a cell that was removed is there again by that, never run, as a new one.");
        says(21, "Returns whether the code is another one by that, or the cell is there, or is not, by that.");
        Cellbrook x = Check.notebook(Cellbrook.BY_HAND, "a = 1; b = 2", "c = a");
        x.run(0);
        x.run(0);
        x.keep();
        check.no("21: the same code", x.take(0, 0));
        Check.define(x, 0, 'a', "7");
        check.yes("21: another code", x.take(0, 0));
        check.no("21: the same code then", x.take(0, 0));
        check.same("21: its code", x.valueAnew(0, A), 1);
        check.same("21: it was run before", x.runs(0), 2);
        x.cell();
        Check.define(x, 2, 'd', "1");
        x.run(2);
        x.keep();
        check.yes("21: it is not in that branch", x.take(0, 2));
        check.refused("21: it is removed", x, INDEX, () -> x.runs(2));
        check.no("21: it is not there, as in that branch", x.take(0, 2));
        check.yes("21: it is there again", x.take(1, 2));
        check.no("21: it is there already", x.take(1, 2));
        check.same("21: never run", x.runs(2), 0);
        check.same("21: never run", x.error(2), Cellbrook.NONE);
        check.same("21: nothing is kept", x.kind(2, D), Cellbrook.NOTHING);
        check.yes("21: stale", x.isStale(2));
        check.same("21: its code", x.valueAnew(2, D), 1);
        x.remove(0);
        check.yes("21: another one is there again", x.take(1, 0));
        check.same("21: never run", x.runs(0), 0);
        check.same("21: with all its definitions", x.valueAnew(0, A) * 10 + x.valueAnew(0, B), 12);
        Cellbrook y = Check.notebook(Cellbrook.AT_ONCE, "a = 1");
        y.keep();
        y.setInput(0, 1);
        Check.define(y, 0, 'a', "2");
        y.remove(0);
        check.yes("21: there again, at once", y.take(0, 0));
        check.same("21: run once", y.runs(0), 1);
        check.same("21: the next one's number", y.cell(), 1);
    }

    private static void takeRefused() {
        says(21, "Throws `IndexOutOfBoundsException` as told, of the branch, or if there never was such a cell");
        for (int branch : new int[] {-1, 1, 4, Integer.MIN_VALUE, Integer.MAX_VALUE}) {
            refuses("branch " + branch, INDEX, PromisesTest::some, x -> x.take(branch, 0) ? 1 : 0);
            refuses("branch " + branch, INDEX, PromisesTest::some, x -> x.take(branch, 9) ? 1 : 0);
        }
        for (int cell : new int[] {-1, 3, 11, 12, Integer.MIN_VALUE, Integer.MAX_VALUE}) {
            refuses("cell " + cell, INDEX, PromisesTest::some, x -> x.take(0, cell) ? 1 : 0);
        }
        check.no("21: there was one, and there is none in either", some().take(0, 2));
        refuses("no branch", INDEX, () -> piled(1), x -> x.take(0, 0) ? 1 : 0);
    }

    private static void differ() {
        says(22, "Returns which cells have another code than in a branch, or are there just in one of both.");
        says(22, "Returns the set: bit c for the cell c.");
        Cellbrook x = new Cellbrook();
        x.keep();
        for (int cell = 0; cell < 12; cell++) {
            x.cell();
            check.same("22: there, and not in the branch", x.differ(0), (2 << cell) - 1);
        }
        x.keep();
        check.same("22: none", x.differ(1), 0);
        for (int cell = 0; cell < 12; cell++) {
            Check.define(x, cell, 'a', "1");
            check.same("22: another code", x.differ(1), 1 << cell);
            x.drop(cell, A);
        }
        x.remove(11);
        x.remove(0);
        check.same("22: in the branch alone", x.differ(1), Check.set(0, 11));
        check.same("22: in neither", x.differ(0), Check.set(1, 2, 3, 4, 5, 6, 7, 8, 9, 10));
        says(22, "Throws `IndexOutOfBoundsException` as told");
        for (int branch : new int[] {-1, 1, 4, Integer.MIN_VALUE, Integer.MAX_VALUE}) {
            refuses("branch " + branch, INDEX, PromisesTest::some, y -> y.differ(branch));
        }
        refuses("no branch", INDEX, () -> piled(1), y -> y.differ(0));
    }

    // questions

    private static void refusesCells(Check.Act... acts) {
        for (Check.Act act : acts) {
            refuses("no such cell", INDEX, PromisesTest::some, act);
        }
    }

    private static void error() {
        says(23, "Returns the error of a cell by its last run; NONE if it was never run.");
        says(23, "Returns 0 without one; 1 to 5 as told.");
        Cellbrook x = Check.notebook(Cellbrook.BY_HAND, "a = 1", "b = 1", "b = 2", "c = c", "d = p", "e = (draw 0)", "f = e");
        int[] due = {0, 1, 1, 2, 3, 4, 5};
        for (int cell = 0; cell < due.length; cell++) {
            check.same("23: never run", x.error(cell), Cellbrook.NONE);
            x.run(cell);
            check.same("23: its error", x.error(cell), due[cell]);
        }
        for (int cell = 0; cell < due.length; cell++) {
            x.drop(cell, cell < 3 ? Math.min(cell, 1) : cell - 1);
            check.same("23: by its last run", x.error(cell), due[cell]);
        }
        for (int cell = 0; cell < due.length; cell++) {
            x.run(cell);
            check.same("23: by its last run", x.error(cell), 0);
        }
        says(23, "Throws `IndexOutOfBoundsException` as told");
        for (int cell : NO_CELLS) {
            refusesCells(y -> y.error(cell));
        }
    }

    private static void isStale() {
        says(24, "Returns whether a cell is stale.");
        Cellbrook x = Check.notebook(Cellbrook.BY_HAND, "a = i0", "b = a");
        check.yes("24: never run", x.isStale(0) && x.isStale(1));
        x.run(0);
        check.no("24: run", x.isStale(0));
        x.run(1);
        check.no("24: run", x.isStale(1));
        x.setInput(0, 1);
        check.yes("24: stale, and over it", x.isStale(0) && x.isStale(1));
        check.same("24: by asking nothing is run", x.runs(0) + x.runs(1), 2);
        x.run(0);
        check.no("24: run", x.isStale(0));
        check.yes("24: another number", x.isStale(1));
        says(24, "Throws `IndexOutOfBoundsException` as told");
        for (int cell : NO_CELLS) {
            refusesCells(y -> y.isStale(cell) ? 1 : 0);
        }
    }

    private static void kind() {
        says(25, "Returns what is kept of a name that a cell defined when it was run.");
        says(25, "Returns NOTHING, also if it has an error, or did not; NUMBER or FUNCTION.");
        Cellbrook x = Check.notebook(Cellbrook.BY_HAND, "a = 0; b = (fn c c); d = b; p = a");
        for (int name = 0; name < 16; name++) {
            check.same("25: never run", x.kind(0, name), Cellbrook.NOTHING);
        }
        x.run(0);
        int[] due = {1, 2, 0, 2, 0, 0, 0, 0, 0, 0, 0, 0, 0, 0, 0, 1};
        for (int name = 0; name < 16; name++) {
            check.same("25: as it was run", x.kind(0, name), due[name]);
        }
        x.drop(0, P);
        Check.define(x, 0, 'c', "1");
        check.same("25: when it was run", x.kind(0, P) * 10 + x.kind(0, C), 10);
        x.run(0);
        check.same("25: when it was run", x.kind(0, P) * 10 + x.kind(0, C), 1);
        Check.define(x, 0, 'c', "(draw 0)");
        x.run(0);
        check.same("25: an error", x.kind(0, A) + x.kind(0, B) + x.kind(0, C) + x.kind(0, D), 0);
        says(25, "Throws `IndexOutOfBoundsException` as told, of the cell or the name");
        for (int cell : NO_CELLS) {
            refusesCells(y -> y.kind(cell, A));
        }
        for (int name : NO_NAMES) {
            refusesCells(y -> y.kind(0, name));
        }
    }

    private static void value() {
        says(26, "Returns the number that is kept of a name that a cell defined.");
        Cellbrook x = Check.notebook(Cellbrook.BY_HAND, "a = i0; b = (* i0 -1); p = 0", "c = 1");
        x.setInput(0, Long.MIN_VALUE);
        x.run(0);
        check.same("26: a number", x.value(0, A), Long.MIN_VALUE);
        check.same("26: a number", x.value(0, B), Long.MIN_VALUE);
        check.same("26: a number", x.value(0, P), 0);
        x.setInput(0, 3);
        check.same("26: as it is kept", x.value(0, A), Long.MIN_VALUE);
        x.run(0);
        check.same("26: as it is kept", x.value(0, B), -3);
        says(26, "Throws `IndexOutOfBoundsException` as told, of the cell or the name");
        for (int cell : NO_CELLS) {
            refusesCells(y -> y.value(cell, A));
        }
        for (int name : NO_NAMES) {
            refusesCells(y -> y.value(0, name));
        }
        says(26, "Throws `IllegalStateException` if it is no number");
        refuses("a function", STATE, PromisesTest::some, y -> y.value(0, B));
        refuses("not defined", STATE, PromisesTest::some, y -> y.value(0, C));
        refuses("of another cell", STATE, PromisesTest::some, y -> y.value(1, A));
        refuses("a local", STATE, PromisesTest::some, y -> y.value(1, E));
        check.refused("26: never run", x, STATE, () -> x.value(1, C));
        x.drop(0, P);
        Check.define(x, 0, 'd', "p");
        check.same("26: wrong, but not its error yet", x.value(0, A), 3);
        x.run(0);
        check.refused("26: an error", x, STATE, () -> x.value(0, A));
    }

    private static void valueAnew() {
        says(27, "Returns the same, found by running all cells from nothing, those that are needed first.");
        says(27, "Returns the number; NONE if there is none such.");
        Cellbrook x = Check.notebook(Cellbrook.BY_HAND, "c = (+ b a)", "b = (* a 10)", "a = i0; d = (fn e e)", "f = f", "g = (draw 0)");
        x.setInput(0, 4);
        check.same("27: never run, those needed first", x.valueAnew(0, C), 44);
        check.same("27: nothing is kept by that", x.kind(0, C) + x.runs(0) + x.runs(2), 0);
        x.run(2);
        x.setInput(0, 5);
        check.same("27: not what is kept", x.valueAnew(0, C), 55);
        check.same("27: what is kept stays", x.value(2, A), 4);
        check.same("27: a function", x.valueAnew(2, D), Cellbrook.NONE);
        check.same("27: a wrong one", x.valueAnew(3, 5), Cellbrook.NONE);
        check.same("27: an error", x.valueAnew(4, 6), Cellbrook.NONE);
        check.same("27: not defined", x.valueAnew(2, P), Cellbrook.NONE);
        check.same("27: of another cell", x.valueAnew(0, A), Cellbrook.NONE);
        x.setInput(0, -1);
        check.same("27: the number -1", x.valueAnew(2, A), -1);
        check.same("27: the number -11", x.valueAnew(0, C), -11);
        says(27, "Throws `IndexOutOfBoundsException` as told, of the cell or the name");
        for (int cell : NO_CELLS) {
            refusesCells(y -> y.valueAnew(cell, A));
        }
        for (int name : NO_NAMES) {
            refusesCells(y -> y.valueAnew(0, name));
        }
    }

    private static void errorAnew() {
        says(28, "Returns the error of a cell, found by running all cells from nothing.");
        says(28, "Returns 0 to 5.");
        Cellbrook x = Check.notebook(Cellbrook.BY_HAND, "f = e", "a = 1", "b = 1", "b = 2", "c = c", "d = p", "e = (draw i0)");
        int[] due = {5, 0, 1, 1, 2, 3, 4};
        for (int cell = 0; cell < due.length; cell++) {
            check.same("28: its error", x.errorAnew(cell), due[cell]);
            check.same("28: it is not run by that", x.error(cell), Cellbrook.NONE);
        }
        x.run(6);
        x.setInput(0, 1);
        check.same("28: not the one that is kept", x.errorAnew(6), 0);
        check.same("28: not the one that is kept", x.errorAnew(0), 0);
        check.same("28: which stays", x.error(6), 4);
        says(28, "Throws `IndexOutOfBoundsException` as told");
        for (int cell : NO_CELLS) {
            refusesCells(y -> y.errorAnew(cell));
        }
    }

    private static void reads() {
        says(29, "Returns which names a cell reads.");
        says(29, "Returns the set: bit n for the name n.");
        for (int name = 0; name < 16; name++) {
            Cellbrook x = new Cellbrook();
            x.cell();
            check.same("29: none", x.reads(0), 0);
            x.name(name);
            x.define(0, (name + 1) % 16);
            check.same("29: one", x.reads(0), 1 << name);
            x.name(name);
            x.function(name);
            x.define(0, (name + 1) % 16);
            check.same("29: bound", x.reads(0), 0);
        }
        Cellbrook y = Check.notebook(Cellbrook.BY_HAND, "a = (+ p b)", "a = a; c = (+ a b)", "d = a; e = d");
        check.same("29: two", y.reads(0), Check.names("pb"));
        check.same("29: its own, there", y.reads(1), Check.names("ab"));
        check.same("29: its own, ahead", y.reads(2), Check.names("a"));
        says(29, "Throws `IndexOutOfBoundsException` as told");
        for (int cell : NO_CELLS) {
            refusesCells(z -> z.reads(cell));
        }
    }

    private static void slice() {
        says(30, "Returns which cells a cell needs, itself with them.");
        says(30, "Returns the set: bit c for the cell c.");
        Cellbrook x = Check.notebook(Cellbrook.BY_HAND, "a = l", "b = a", "c = b", "d = c", "e = d", "f = e", "g = f", "h = g",
            "i = h", "j = i", "k = j", "l = 1");
        for (int cell = 0; cell < 11; cell++) {
            check.same("30: those it needs", x.slice(cell), (2 << cell) - 1 | 1 << 11);
        }
        check.same("30: itself", x.slice(11), 1 << 11);
        Check.define(x, 11, 'l', "k");
        check.same("30: in a ring", x.slice(5), 4095);
        x.remove(5);
        check.same("30: without one", x.slice(5 + 1), 1 << 6);
        check.same("30: without one", x.slice(4), Check.set(0, 1, 2, 3, 4, 6, 7, 8, 9, 10, 11));
        says(30, "Throws `IndexOutOfBoundsException` as told");
        for (int cell : NO_CELLS) {
            refusesCells(y -> y.slice(cell));
        }
    }

    private static void runs() {
        says(31, "Returns how often a cell was run; being wrong is no run.");
        Cellbrook x = Check.notebook(Cellbrook.BY_HAND, "a = i0", "b = b", "c = (draw 0)", "d = c");
        for (int times = 0; times < 5; times++) {
            for (int cell = 0; cell < 4; cell++) {
                check.same("31: how often", x.runs(cell), cell == 1 ? 0 : times);
                x.run(cell);
            }
        }
        Check.define(x, 0, 'a', "a");
        x.run(0);
        check.same("31: being wrong is no run", x.runs(0), 5);
        Check.define(x, 0, 'a', "1");
        x.run(0);
        check.same("31: run again", x.runs(0), 6);
        x.mode(Cellbrook.BY_NEED);
        x.run(0);
        check.same("31: not stale, not run", x.runs(0), 6);
        x.mode(Cellbrook.AT_ONCE);
        check.same("31: not stale, not run", x.runs(0), 6);
        x.valueAnew(0, A);
        x.errorAnew(0);
        check.same("31: anew is none", x.runs(0), 6);
        says(31, "Throws `IndexOutOfBoundsException` as told");
        for (int cell : NO_CELLS) {
            refusesCells(y -> y.runs(cell));
        }
    }
}
