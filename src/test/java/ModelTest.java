import java.util.ArrayList;
import java.util.List;

/** Long runs of drawn calls, always the same ones, each asked of the class and of the Model. */
public final class ModelTest {
    private static final int CALLS = 512;

    private final int run;
    private long state;
    private final Cellbrook x = new Cellbrook();
    private final Model model = new Model();
    private final List<String> said = new ArrayList<>();
    private final int kindOfRun;
    private boolean failed;
    private int made;
    private int readable;
    private int boundNumbers;
    private int boundFunctions;

    private ModelTest(int run) {
        this.run = run;
        this.state = run * 7919L + 17;
        this.kindOfRun = run % 4;
    }

    public static void main(String[] args) {
        int runs = args.length > 0 ? Integer.parseInt(args[0]) : 1500;
        int failures = 0;
        for (int run = 0; run < runs && failures < 3; run++) {
            failures += new ModelTest(run).passes() ? 0 : 1;
        }
        System.out.println("ModelTest: " + runs + " runs, " + failures + " failed");
        if (failures > 0) {
            System.exit(1);
        }
    }

    private int any(int bound) {
        state = state * 6364136223846793005L + 1442695040888963407L;
        return (int) ((state >>> 33) % bound);
    }

    private boolean passes() {
        while (said.size() < CALLS && !failed) {
            turn();
        }
        return !failed;
    }

    private void say(String what, Check.Call ofClass, Check.Call ofModel) {
        if (failed || said.size() >= CALLS) {
            return;
        }
        String got = Check.answerOf(ofClass);
        String due = Check.answerOf(ofModel);
        said.add(what + " -> " + got);
        if (!got.equals(due)) {
            failed = true;
            System.out.println("ModelTest, run " + run + ", call " + said.size() + ": " + what + " answered " + got
                + ", due is " + due);
            if (System.getenv("CELLBROOK_TELL") != null) {
                said.forEach(System.out::println);
            }
        }
    }

    /** Mostly one of the cells that were made; sometimes one that never was. */
    private int aCell() {
        int from = any(60);
        return from == 0 ? -1 : from == 1 ? 12 : from == 2 ? any(12) : any(Math.max(1, made));
    }

    /** Mostly one of the two names that are this cell's; an even one is mostly a number, an odd one a function. */
    private int aNameOf(int cell) {
        int from = any(kindOfRun == 1 ? 20 : 80);
        return from == 0 ? -1 + 17 * any(2) : from < 3 ? any(16) : Math.max(0, cell) % 6 * 2 + any(2);
    }

    private int anyName() {
        int from = any(60);
        return from == 0 ? -1 : from == 1 ? 16 : any(16);
    }

    private long aNumber() {
        int from = any(16);
        return from == 0 ? Long.MIN_VALUE : from == 1 ? Long.MAX_VALUE : from == 2 ? 3_000_000_000L : any(7) - 1;
    }

    private void turn() {
        if (made < 4 && any(4) != 0) {
            aNewCell();
            return;
        }
        int from = any(100);
        if (from < 20) {
            aDefinition();
        } else if (from < 56) {
            aChange();
        } else if (from < 58) {
            anyOnThePile();
        } else {
            aQuestion();
        }
    }

    private void aNewCell() {
        int before = said.size();
        say("cell()", x::cell, model::cell);
        made += said.size() > before && !said.get(before).endsWith("Exception") ? 1 : 0;
    }

    private void aDefinition() {
        int cell = aCell();
        int name = aNameOf(cell);
        // Mostly names of cells ahead of it are read, so that few rings come about.
        readable = any(kindOfRun == 1 ? 10 : 40) == 0 ? 12 : Math.max(0, Math.min(cell, 6)) * 2;
        boundNumbers = 0;
        boundFunctions = 0;
        if ((name & 1) == 0) {
            aNumberExpr(1 + any(2));
        } else {
            aFunctionExpr(1 + any(2));
        }
        say("define(" + cell + ", " + name + ")", () -> x.define(cell, name), () -> model.define(cell, name));
    }

    /** Puts an expr of that depth at most on the pile, mostly one that is a number. */
    private void aNumberExpr(int depth) {
        if (any(60) == 0) {
            aFunctionExpr(depth);
            return;
        }
        switch (depth <= 0 ? any(6) : any(18)) {
            case 0 -> number(aNumber());
            case 1, 2, 3, 4 -> aNumberName();
            case 5 -> input(any(4));
            case 6, 7, 8, 9 -> {
                aNumberExpr(depth - 1);
                aNumberExpr(depth - 1);
                two(any(4));
            }
            case 10 -> {
                number(any(9) == 0 ? aNumber() : 3 + any(9));
                draw();
            }
            case 11, 12 -> {
                aNumberExpr(depth - 1);
                aNumberExpr(depth - 1);
                aNumberExpr(depth - 1);
                choose();
            }
            case 13, 14 -> aLocal(depth, true);
            case 15 -> aLoop();
            default -> {
                aFunctionExpr(depth - 1);
                aNumberExpr(depth - 1);
                call();
            }
        }
    }

    private void aFunctionExpr(int depth) {
        if (any(60) == 0) {
            aNumberExpr(depth);
            return;
        }
        if (depth > 0 && kindOfRun == 3 && any(3) == 0) {
            aChain();
            return;
        }
        switch (depth <= 0 ? any(2) : any(8)) {
            case 0 -> aFunctionName();
            case 1, 2, 3, 4 -> aFunctionOf(depth, any(6) == 0);
            case 5 -> aLocal(depth, false);
            case 6 -> {
                aNumberExpr(depth - 1);
                aFunctionExpr(depth - 1);
                aFunctionExpr(depth - 1);
                choose();
            }
            default -> {
                aFunctionOf(depth, true);
                aNumberExpr(depth - 1);
                call();
            }
        }
    }

    private void aFunctionOf(int depth, boolean ofFunction) {
        int name = 12 + any(2);
        int before = boundNumbers;
        boundNumbers |= 1 << name;
        if (ofFunction) {
            aFunctionExpr(depth - 1);
        } else {
            aNumberExpr(depth - 1);
        }
        boundNumbers = before;
        function(name);
    }

    private void aLocal(int depth, boolean ofNumber) {
        int name = any(6) == 0 ? any(12) : 12 + any(4);
        boolean isNumber = name < 12 ? (name & 1) == 0 : name < 14;
        if (isNumber) {
            aNumberExpr(depth - 1);
        } else {
            aFunctionExpr(depth - 1);
        }
        int numbers = boundNumbers;
        int functions = boundFunctions;
        boundNumbers |= isNumber ? 1 << name : 0;
        boundFunctions |= isNumber ? 0 : 1 << name;
        if (ofNumber) {
            aNumberExpr(depth - 1);
        } else {
            aFunctionExpr(depth - 1);
        }
        boundNumbers = numbers;
        boundFunctions = functions;
        local(name);
    }

    private void aNumberName() {
        int from = any(3);
        if (from == 0 && boundNumbers != 0 || readable == 0 && boundNumbers != 0) {
            name(Integer.numberOfTrailingZeros(boundNumbers));
        } else if (readable == 0) {
            number(aNumber());
        } else {
            name(any(readable) & ~1);
        }
    }

    private void aFunctionName() {
        if (boundFunctions != 0 && any(2) == 0) {
            name(Integer.numberOfTrailingZeros(boundFunctions));
        } else if (readable == 0) {
            name(12);
            function(12);
        } else {
            name(any(readable) | 1);
        }
    }

    /** A loop by calls that takes nearly 300 steps, or some more. */
    private void aLoop() {
        name(13);
        number(1);
        two(3);
        input(any(4));
        name(13);
        name(12);
        name(12);
        call();
        name(13);
        number(1);
        two(1);
        call();
        two(any(3));
        choose();
        function(13);
        function(12);
        name(12);
        name(12);
        call();
        number(19 + any(6));
        call();
        local(12);
    }

    /** A function that keeps a function, and so on, many times: what is kept must never be used for others. */
    private void aChain() {
        name(13);
        number(1);
        two(3);
        aFunctionName();
        name(12);
        name(12);
        call();
        name(13);
        number(1);
        two(1);
        call();
        name(14);
        name(15);
        name(13);
        two(0);
        call();
        function(15);
        local(14);
        choose();
        function(13);
        function(12);
        name(12);
        name(12);
        call();
        number(4 + any(8));
        call();
        local(12);
    }

    private void number(long number) {
        say("number(" + number + ")", () -> x.number(number), () -> model.number(number));
    }

    private void name(int name) {
        say("name(" + name + ")", () -> x.name(name), () -> model.name(name));
    }

    private void input(int input) {
        say("input(" + input + ")", () -> x.input(input), () -> model.input(input));
    }

    private void draw() {
        say("draw()", x::draw, model::draw);
    }

    private void two(int sign) {
        say("two(" + sign + ")", () -> x.two(sign), () -> model.two(sign));
    }

    private void choose() {
        say("choose()", x::choose, model::choose);
    }

    private void local(int name) {
        say("local(" + name + ")", () -> x.local(name), () -> model.local(name));
    }

    private void function(int name) {
        say("function(" + name + ")", () -> x.function(name), () -> model.function(name));
    }

    private void call() {
        say("call()", x::call, model::call);
    }

    private void anyOnThePile() {
        switch (any(9)) {
            case 0 -> number(aNumber());
            case 1 -> name(anyName());
            case 2 -> input(any(8) - 2);
            case 3 -> draw();
            case 4 -> two(any(7) - 1);
            case 5 -> choose();
            case 6 -> local(anyName());
            case 7 -> function(anyName());
            default -> call();
        }
    }

    private void aChange() {
        int cell = aCell();
        int name = aNameOf(cell);
        int branch = any(16) == 0 ? any(9) - 2 : any(2);
        switch (any(28)) {
            case 0 -> aNewCell();
            case 1 -> say("drop(" + cell + ", " + name + ")", () -> x.drop(cell, name), () -> model.drop(cell, name));
            case 2 -> {
                if (any(5) == 0) {
                    say("remove(" + cell + ")", () -> x.remove(cell), () -> model.remove(cell));
                }
            }
            case 3 -> aRename(name);
            case 4, 5, 6, 7, 8, 9 -> {
                int input = any(40) == 0 ? any(9) - 2 : any(4);
                long number = any(3) == 0 ? aNumber() : any(3);
                say("setInput(" + input + ", " + number + ")", () -> x.setInput(input, number),
                    () -> model.setInput(input, number));
            }
            case 10, 11 -> {
                int seed = any(5) == 0 ? Integer.MIN_VALUE : any(3);
                say("seed(" + seed + ")", () -> x.seed(seed), () -> model.seed(seed));
            }
            case 12 -> aMode();
            case 13 -> say("keep()", x::keep, model::keep);
            case 14, 15, 16 -> say("take(" + branch + ", " + cell + ")", () -> x.take(branch, cell) ? 1 : 0,
                () -> model.take(branch, cell) ? 1 : 0);
            case 17 -> say("differ(" + branch + ")", () -> x.differ(branch), () -> model.differ(branch));
            default -> say("run(" + cell + ")", () -> x.run(cell), () -> model.run(cell));
        }
    }

    /** Mostly renamed back soon, so that the cells keep their names. */
    private void aRename(int name) {
        int other = any(5) == 0 ? anyName() : 12 + any(4);
        say("rename(" + name + ", " + other + ")", () -> x.rename(name, other), () -> model.rename(name, other));
        if (any(4) != 0) {
            say("rename(" + other + ", " + name + ")", () -> x.rename(other, name), () -> model.rename(other, name));
        }
    }

    private void aMode() {
        int mode = any(12) == 0 ? any(7) - 2 : kindOfRun == 3 ? 1 + any(2) : any(3);
        say("mode(" + mode + ")", () -> x.mode(mode), () -> model.mode(mode));
    }

    private void aQuestion() {
        int cell = aCell();
        int name = aNameOf(cell);
        switch (any(12)) {
            case 0 -> say("error(" + cell + ")", () -> x.error(cell), () -> model.error(cell));
            case 1, 2, 3 -> say("isStale(" + cell + ")", () -> x.isStale(cell) ? 1 : 0, () -> model.isStale(cell) ? 1 : 0);
            case 4 -> say("kind(" + cell + ", " + name + ")", () -> x.kind(cell, name), () -> model.kind(cell, name));
            case 5, 6 -> say("value(" + cell + ", " + name + ")", () -> x.value(cell, name),
                () -> model.value(cell, name));
            case 7 -> say("valueAnew(" + cell + ", " + name + ")", () -> x.valueAnew(cell, name),
                () -> model.valueAnew(cell, name));
            case 8 -> say("errorAnew(" + cell + ")", () -> x.errorAnew(cell), () -> model.errorAnew(cell));
            case 9 -> say("reads(" + cell + ")", () -> x.reads(cell), () -> model.reads(cell));
            case 10 -> say("slice(" + cell + ")", () -> x.slice(cell), () -> model.slice(cell));
            default -> say("runs(" + cell + ")", () -> x.runs(cell), () -> model.runs(cell));
        }
    }
}
