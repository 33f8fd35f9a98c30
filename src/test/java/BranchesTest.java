/** Promises 20 to 22: keep, take and differ. */
public final class BranchesTest {
    private static final Check check = new Check("BranchesTest");
    private static final Class<IllegalStateException> STATE = IllegalStateException.class;
    private static final Class<IndexOutOfBoundsException> INDEX = IndexOutOfBoundsException.class;
    private static final int A = 0, B = 1, C = 2;

    public static void main(String[] args) {
        keep();
        takeCode();
        takeRemoves();
        takeBringsBack();
        takeBringsBackByHand();
        takeRefused();
        takeStale();
        takeRunsAtOnce();
        differ();
        check.end();
    }

    private static void keep() {
        Cellbrook x = Check.notebook(Cellbrook.AT_ONCE, "a = 1");
        for (int branch = 0; branch < 4; branch++) {
            check.same("20: keep", x.keep(), branch);
            Check.define(x, 0, 'a', Integer.toString(10 + branch));
        }
        check.refused("20: there are 4", x, STATE, x::keep);
        for (int branch = 3; branch >= 0; branch--) {
            check.same("20: each keeps its own", x.differ(branch), 1);
            check.yes("20: take", x.take(branch, 0));
            check.same("20: each keeps its own", x.value(0, A), branch == 0 ? 1 : 9 + branch);
            check.same("20: none differs then", x.differ(branch), 0);
        }
        check.refused("20: there are 4 still", x, STATE, x::keep);
        Cellbrook y = new Cellbrook();
        check.same("20: without cells", y.keep(), 0);
        y.cell();
        check.same("20: a cell more", y.differ(0), 1);
        check.same("20: the same code twice", y.keep(), 1);
        check.same("20: the same code twice", y.keep(), 2);
    }

    private static void takeCode() {
        Cellbrook x = Check.notebook(Cellbrook.AT_ONCE, "a = 1; b = 2", "c = (+ a b)");
        x.keep();
        Check.define(x, 0, 'a', "10");
        Check.define(x, 1, 'c', "(* a b)");
        check.same("21: value", x.value(1, C), 20);
        check.yes("21: another one", x.take(0, 0));
        check.same("21: the cell alone", x.value(0, A), 1);
        check.same("21: the cell alone", x.value(1, C), 2);
        int runs = x.runs(0);
        check.no("21: the same", x.take(0, 0));
        check.same("21: no run by that", x.runs(0), runs);
        check.yes("21: the other cell", x.take(0, 1));
        check.same("21: the other cell", x.value(1, C), 3);
        x.drop(0, A);
        check.yes("21: a definition more", x.take(0, 0));
        check.same("21: a definition more", x.value(1, C), 3);
        Check.define(x, 0, 'p', "1");
        check.yes("21: a definition less", x.take(0, 0));
        check.same("21: a definition less", x.kind(0, 15), Cellbrook.NOTHING);
        x.drop(0, A);
        Check.define(x, 0, 'a', "1");
        check.yes("21: another order", x.take(0, 0));
        Check.define(x, 0, 'a', "1");
        check.no("21: the same code, told again", x.take(0, 0));
        Check.define(x, 0, 'a', "5");
        x.keep();
        check.yes("21: the branch itself is not changed by what comes behind", x.take(0, 0));
        check.same("21: the branch itself", x.value(0, A), 1);
        check.yes("21: another branch", x.take(1, 0));
        check.same("21: another branch", x.value(0, A), 5);
    }

    private static void takeRemoves() {
        Cellbrook x = Check.notebook(Cellbrook.AT_ONCE, "a = 1");
        x.keep();
        x.cell();
        Check.define(x, 1, 'b', "(+ a 1)");
        check.yes("21: it is not in the branch", x.take(0, 1));
        check.refused("21: it was removed", x, INDEX, () -> x.error(1));
        check.no("21: it is not there, as in the branch", x.take(0, 1));
        check.same("21: its number is not given again", x.cell(), 2);
        check.same("21: without definitions", x.reads(2), 0);
    }

    private static void takeBringsBack() {
        Cellbrook x = Check.notebook(Cellbrook.AT_ONCE, "a = 1", "b = (+ a 1)", "c = b");
        x.keep();
        x.setInput(0, 1);
        check.same("21: runs", x.runs(1), 2);
        x.remove(1);
        check.same("21: without it", x.error(2), 3);
        check.yes("21: there again", x.take(0, 1));
        check.same("21: its code", x.value(2, C), 2);
        check.same("21: as a new one", x.runs(1), 1);
        check.same("21: slice", x.slice(2), 7);
        check.same("21: it counts", x.remove(2), 2);
        for (int cell = 3; cell < 12; cell++) {
            x.cell();
        }
        x.remove(1);
        check.yes("21: there again, though there were 12", x.take(0, 1));
        check.refused("21: there were 12", x, STATE, x::cell);
    }

    private static void takeBringsBackByHand() {
        Cellbrook x = Check.notebook(Cellbrook.BY_HAND, "a = i0", "b = a");
        x.run(0);
        x.run(1);
        x.keep();
        x.remove(0);
        x.take(0, 0);
        check.same("21: never run", x.error(0), Cellbrook.NONE);
        check.same("21: never run", x.runs(0), 0);
        check.same("21: never run", x.kind(0, A), Cellbrook.NOTHING);
        check.yes("21: never run", x.isStale(0));
        check.yes("21: nothing to be read", x.isStale(1));
        x.run(1);
        check.same("21: nothing to be read", x.error(1), 5);
        x.run(0);
        check.same("21: run", x.runs(0), 1);
        check.same("21: run", x.value(0, A), 0);
        // Removed by take, and there again by another branch.
        x.cell();
        Check.define(x, 2, 'c', "3");
        x.run(2);
        x.run(2);
        x.keep();
        x.take(0, 2);
        x.take(1, 2);
        check.same("21: as a new one", x.runs(2), 0);
        check.same("21: as a new one", x.error(2), Cellbrook.NONE);
        x.run(2);
        check.same("21: its code", x.value(2, C), 3);
    }

    private static void takeRefused() {
        Cellbrook x = Check.notebook(Cellbrook.AT_ONCE, "a = 1", "b = 2");
        check.refused("21: no such branch", x, INDEX, () -> x.take(0, 0) ? 1 : 0);
        check.refused("22: no such branch", x, INDEX, () -> x.differ(0));
        x.keep();
        check.refused("21: no such branch", x, INDEX, () -> x.take(-1, 0) ? 1 : 0);
        check.refused("21: no such branch", x, INDEX, () -> x.take(1, 0) ? 1 : 0);
        check.refused("21: no such branch", x, INDEX, () -> x.take(4, 0) ? 1 : 0);
        check.refused("21: there never was such a cell", x, INDEX, () -> x.take(0, 2) ? 1 : 0);
        check.refused("21: there never was such a cell", x, INDEX, () -> x.take(0, -1) ? 1 : 0);
        check.refused("21: there never was such a cell", x, INDEX, () -> x.take(0, 12) ? 1 : 0);
        check.refused("22: no such branch", x, INDEX, () -> x.differ(-1));
        check.refused("22: no such branch", x, INDEX, () -> x.differ(1));
        check.refused("22: no such branch", x, INDEX, () -> x.differ(Integer.MAX_VALUE));
        x.remove(1);
        check.yes("21: there was such a cell", x.take(0, 1));
    }

    private static void takeStale() {
        Cellbrook x = Check.notebook(Cellbrook.BY_HAND, "a = 1", "b = a");
        x.run(0);
        x.run(1);
        x.keep();
        Check.define(x, 0, 'a', "2");
        x.keep();
        check.yes("21: stale", x.isStale(0) && x.isStale(1));
        x.take(0, 0);
        check.no("21: the code that was run", x.isStale(0) || x.isStale(1));
        x.take(1, 0);
        check.yes("21: another one", x.isStale(0));
        check.same("21: what is kept stays", x.value(0, A), 1);
        check.same("21: nothing was run by that", x.runs(0), 1);
    }

    private static void takeRunsAtOnce() {
        Cellbrook x = Check.notebook(Cellbrook.AT_ONCE, "a = 1", "b = (* a a)");
        x.keep();
        Check.define(x, 0, 'a', "3");
        x.take(0, 0);
        check.same("21: run behind it", x.value(1, B), 1);
        Cellbrook y = Check.notebook(Cellbrook.AT_ONCE, "a = 1", "");
        y.keep();
        y.drop(0, A);
        Check.define(y, 1, 'a', "2");
        y.take(0, 0);
        check.same("21: doubled by that", y.error(0), 1);
        check.same("21: doubled by that", y.error(1), 1);
        y.take(0, 1);
        check.same("21: right by that", y.value(0, A), 1);
    }

    private static void differ() {
        Cellbrook x = Check.notebook(Cellbrook.AT_ONCE, "a = 1", "b = a", "c = b", "d = c");
        x.keep();
        check.same("22: none", x.differ(0), 0);
        Check.define(x, 1, 'b', "(+ a 1)");
        check.same("22: another code", x.differ(0), Check.set(1));
        x.setInput(0, 4);
        x.seed(4);
        check.same("22: the code alone", x.differ(0), Check.set(1));
        x.remove(2);
        check.same("22: in the branch alone", x.differ(0), Check.set(1, 2));
        x.cell();
        check.same("22: there alone", x.differ(0), Check.set(1, 2, 4));
        x.keep();
        check.same("22: of another branch", x.differ(1), 0);
        x.remove(4);
        check.same("22: in neither", x.differ(0), Check.set(1, 2));
        check.same("22: in the branch alone", x.differ(1), Check.set(4));
        x.rename(A, 15);
        check.same("22: renamed", x.differ(0), Check.set(0, 1, 2));
        x.rename(15, A);
        Check.define(x, 1, 'b', "a");
        x.take(0, 2);
        check.same("22: all back again", x.differ(0), 0);
        check.same("22: and the other branch", x.differ(1), Check.set(1, 2, 4));
        Check.define(x, 3, 'd', "(let e 1 c)");
        x.keep();
        Check.define(x, 3, 'd', "(let f 1 c)");
        check.same("22: another local's name is another code", x.differ(2), Check.set(3));
    }
}
