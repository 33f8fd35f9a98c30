public final class Cellbrook {
    public static final int NONE = -1;
    public static final int AT_ONCE = 0, BY_NEED = 1, BY_HAND = 2;
    public static final int NOTHING = 0, NUMBER = 1, FUNCTION = 2;

    private static final int CELLS = 12;
    private static final int NAMES = 16;
    private static final int INPUTS = 4;
    private static final int BRANCHES = 4;
    private static final int PILE = 20;
    private static final int PARTS = 30;
    private static final int DEFINITIONS = 4;
    private static final int STEPS = 300;
    private static final int SIGNS = 4;
    private static final int MOST_DRAWN_OF = 2147483647;
    private static final int ALL_CELLS = (1 << CELLS) - 1;

    private static final int RIGHT = 0, DOUBLED = 1, RING = 2, UNDEFINED = 3, IMPOSSIBLE = 4, UNREADABLE = 5;

    private final Expr[] pile;
    private int height;
    private final Version current;
    private int made;
    private final Links links;
    private final Resources resources;
    private final Sheet sheet;
    private final Sheet anew;
    private int runningMode;
    private final Version[] branches;
    private int branchCount;

    public Cellbrook() {
        pile = new Expr[PILE];
        current = new Version();
        links = new Links(current);
        resources = new Resources();
        Result[] results = new Result[2 * CELLS];
        for (int i = 0; i < results.length; i++) {
            results[i] = new Result();
        }
        Store store = new Store(results);
        Machine machine = new Machine(store, resources);
        sheet = new Sheet(current, links, machine, results, 0);
        anew = new Sheet(current, links, machine, results, CELLS);
        branches = new Version[BRANCHES];
        runningMode = AT_ONCE;
    }

    // ---- exprs

    public int number(long number) throws IllegalStateException {
        needRoomOnPile();
        return putOnPile(new Expr(Expr.LITERAL, 0, number, null, null, null));
    }

    public int name(int name) throws IndexOutOfBoundsException, IllegalStateException {
        needName(name);
        needRoomOnPile();
        return putOnPile(new Expr(Expr.READ, name, 0L, null, null, null));
    }

    public int input(int input) throws IndexOutOfBoundsException, IllegalStateException {
        needInput(input);
        needRoomOnPile();
        return putOnPile(new Expr(Expr.TOLD, input, 0L, null, null, null));
    }

    public int draw() throws IllegalStateException {
        needParts(1);
        return putOnPile(new Expr(Expr.DRAWN, 0, 0L, takeFromPile(), null, null));
    }

    public int two(int sign) throws IllegalArgumentException, IllegalStateException {
        if (sign < 0 || sign >= SIGNS) {
            throw new IllegalArgumentException("no such sign");
        }
        needParts(2);
        Expr second = takeFromPile();
        Expr first = takeFromPile();
        return putOnPile(new Expr(Expr.OF_TWO, sign, 0L, first, second, null));
    }

    public int choose() throws IllegalStateException {
        needParts(3);
        Expr third = takeFromPile();
        Expr second = takeFromPile();
        Expr first = takeFromPile();
        return putOnPile(new Expr(Expr.CHOICE, 0, 0L, first, second, third));
    }

    public int local(int name) throws IndexOutOfBoundsException, IllegalStateException {
        needName(name);
        needParts(2);
        Expr body = takeFromPile();
        Expr value = takeFromPile();
        return putOnPile(new Expr(Expr.LOCAL, name, 0L, value, body, null));
    }

    public int function(int name) throws IndexOutOfBoundsException, IllegalStateException {
        needName(name);
        needParts(1);
        return putOnPile(new Expr(Expr.CLOSURE, name, 0L, null, takeFromPile(), null));
    }

    public int call() throws IllegalStateException {
        needParts(2);
        Expr value = takeFromPile();
        Expr called = takeFromPile();
        return putOnPile(new Expr(Expr.CALL, 0, 0L, called, value, null));
    }

    // ---- cells

    public int cell() throws IllegalStateException {
        if (made >= CELLS) {
            throw new IllegalStateException("there were 12 cells");
        }
        int cell = made++;
        current.there[cell] = true;
        links.follow();
        sheet.settle(cellsAtOnce());
        return cell;
    }

    public int define(int cell, int name) throws IndexOutOfBoundsException, IllegalStateException {
        needCell(cell);
        needName(name);
        Code code = current.codes[cell];
        if (height == 0) {
            throw new IllegalStateException("the pile is empty");
        }
        if (code.placeOf(name) < 0 && code.count >= DEFINITIONS) {
            throw new IllegalStateException("the cell has 4 definitions");
        }
        code.put(name, takeFromPile());
        links.follow();
        sheet.settle(cellsAtOnce());
        return code.count;
    }

    public int drop(int cell, int name) throws IndexOutOfBoundsException, IllegalStateException {
        needCell(cell);
        needName(name);
        Code code = current.codes[cell];
        int place = code.placeOf(name);
        if (place < 0) {
            throw new IllegalStateException("the cell does not define the name");
        }
        code.takeOut(place);
        links.follow();
        sheet.settle(cellsAtOnce());
        return code.count;
    }

    public int remove(int cell) throws IndexOutOfBoundsException {
        needCell(cell);
        current.takeAway(cell);
        sheet.forget(cell);
        links.follow();
        sheet.settle(cellsAtOnce());
        return Integer.bitCount(current.cells());
    }

    public int rename(int name, int other) throws IndexOutOfBoundsException, IllegalStateException {
        needName(name);
        needName(other);
        if (name == other || current.mentions(other)) {
            throw new IllegalStateException("the other name is in use");
        }
        if (links.definers[name] == 0) {
            return 0;
        }
        int renamed = current.exchange(name, other);
        links.follow();
        sheet.settle(cellsAtOnce());
        return renamed;
    }

    // ---- resources, running

    public long setInput(int input, long value) throws IndexOutOfBoundsException {
        needInput(input);
        long before = resources.inputs[input];
        resources.inputs[input] = value;
        sheet.settle(cellsAtOnce());
        return before;
    }

    public int seed(int seed) {
        int before = resources.seed;
        resources.seed = seed;
        sheet.settle(cellsAtOnce());
        return before;
    }

    public int mode(int mode) throws IllegalArgumentException {
        if (mode < AT_ONCE || mode > BY_HAND) {
            throw new IllegalArgumentException("no such mode");
        }
        int before = runningMode;
        runningMode = mode;
        sheet.settle(cellsAtOnce());
        return before;
    }

    public int run(int cell) throws IndexOutOfBoundsException {
        needCell(cell);
        if (runningMode == BY_HAND) {
            return sheet.runOne(cell);
        }
        return sheet.settle(links.needs[cell] | 1 << cell);
    }

    // ---- branches

    public int keep() throws IllegalStateException {
        if (branchCount >= BRANCHES) {
            throw new IllegalStateException("there are 4 branches");
        }
        Version branch = new Version();
        branch.copy(current);
        branches[branchCount] = branch;
        return branchCount++;
    }

    public boolean take(int branch, int cell) throws IndexOutOfBoundsException {
        Version from = neededBranch(branch);
        if (cell < 0 || cell >= made) {
            throw new IndexOutOfBoundsException("there never was such a cell");
        }
        if (current.sameCell(from, cell)) {
            return false;
        }
        if (current.there[cell] != from.there[cell]) {
            sheet.forget(cell);
        }
        current.copyCell(from, cell);
        links.follow();
        sheet.settle(cellsAtOnce());
        return true;
    }

    public int differ(int branch) throws IndexOutOfBoundsException {
        Version from = neededBranch(branch);
        int differing = 0;
        for (int cell = 0; cell < CELLS; cell++) {
            if (!current.sameCell(from, cell)) {
                differing |= 1 << cell;
            }
        }
        return differing;
    }

    // ---- questions

    public int error(int cell) throws IndexOutOfBoundsException {
        needCell(cell);
        return sheet.resultOf(cell).error;
    }

    public boolean isStale(int cell) throws IndexOutOfBoundsException {
        needCell(cell);
        return (sheet.staleCells() >> cell & 1) == 1;
    }

    public int kind(int cell, int name) throws IndexOutOfBoundsException {
        needCell(cell);
        needName(name);
        return sheet.resultOf(cell).kindOf(name);
    }

    public long value(int cell, int name) throws IndexOutOfBoundsException, IllegalStateException {
        needCell(cell);
        needName(name);
        Result result = sheet.resultOf(cell);
        if (result.kindOf(name) != NUMBER) {
            throw new IllegalStateException("no number is kept of the name");
        }
        return result.markOf(name);
    }

    public long valueAnew(int cell, int name) throws IndexOutOfBoundsException {
        needCell(cell);
        needName(name);
        anew.forgetAll();
        anew.settle(ALL_CELLS);
        Result result = anew.resultOf(cell);
        return result.kindOf(name) == NUMBER ? result.markOf(name) : NONE;
    }

    public int errorAnew(int cell) throws IndexOutOfBoundsException {
        needCell(cell);
        anew.forgetAll();
        anew.settle(ALL_CELLS);
        return anew.resultOf(cell).error;
    }

    public int reads(int cell) throws IndexOutOfBoundsException {
        needCell(cell);
        return links.read[cell];
    }

    public int slice(int cell) throws IndexOutOfBoundsException {
        needCell(cell);
        return links.needs[cell] | 1 << cell;
    }

    public int runs(int cell) throws IndexOutOfBoundsException {
        needCell(cell);
        return sheet.resultOf(cell).runs;
    }

    // ---- what the calls share

    private void needCell(int cell) {
        if (cell < 0 || cell >= CELLS || !current.there[cell]) {
            throw new IndexOutOfBoundsException("no such cell");
        }
    }

    private void needName(int name) {
        if (name < 0 || name >= NAMES) {
            throw new IndexOutOfBoundsException("no such name");
        }
    }

    private void needInput(int input) {
        if (input < 0 || input >= INPUTS) {
            throw new IndexOutOfBoundsException("no such input");
        }
    }

    private Version neededBranch(int branch) {
        Version found = branch < 0 || branch >= branchCount ? null : branches[branch];
        if (found == null) {
            throw new IndexOutOfBoundsException("no such branch");
        }
        return found;
    }

    private void needRoomOnPile() {
        if (height >= PILE) {
            throw new IllegalStateException("the pile has 20 exprs");
        }
    }

    /** Refuses to make one expr of the top ones, if there are fewer or it would have too many parts. */
    private void needParts(int wanted) {
        if (height < wanted) {
            throw new IllegalStateException("too few exprs on the pile");
        }
        int parts = 1;
        for (int i = height - wanted; i < height; i++) {
            parts += pile[i] == null ? 0 : pile[i].parts;
        }
        if (parts > PARTS) {
            throw new IllegalStateException("more than 30 parts");
        }
    }

    private int putOnPile(Expr expr) {
        if (height < PILE) {
            pile[height++] = expr;
        }
        return height;
    }

    private Expr takeFromPile() {
        if (height == 0) {
            return null;
        }
        height--;
        Expr top = pile[height];
        pile[height] = null;
        return top;
    }

    /** Which cells are to be settled behind a call that has changed something. */
    private int cellsAtOnce() {
        return runningMode == AT_ONCE ? ALL_CELLS : 0;
    }

    /** An expr; it never changes, so cells, branches and results may share it. */
    private static final class Expr {
        static final int LITERAL = 0, READ = 1, TOLD = 2, DRAWN = 3, OF_TWO = 4, CHOICE = 5, LOCAL = 6,
            CLOSURE = 7, CALL = 8;

        final int sort;
        /** The name, the input or the sign, as the sort has one. */
        final int which;
        final long number;
        final Expr first;
        /** The body of a local or a function stands here, so that names are bound in this one alone. */
        final Expr second;
        final Expr third;
        final int parts;
        final int free;
        final int mentioned;
        final int inputs;
        final boolean draws;

        Expr(int sort, int which, long number, Expr first, Expr second, Expr third) {
            this.sort = sort;
            this.which = which;
            this.number = number;
            this.first = first;
            this.second = second;
            this.third = third;
            boolean binds = sort == LOCAL || sort == CLOSURE;
            int own = sort == READ || binds ? 1 << which : 0;
            int bound = binds ? own : 0;
            parts = 1 + (first == null ? 0 : first.parts) + (second == null ? 0 : second.parts)
                + (third == null ? 0 : third.parts);
            free = (sort == READ ? own : 0) | (first == null ? 0 : first.free)
                | (second == null ? 0 : second.free & ~bound) | (third == null ? 0 : third.free);
            mentioned = own | (first == null ? 0 : first.mentioned) | (second == null ? 0 : second.mentioned)
                | (third == null ? 0 : third.mentioned);
            inputs = (sort == TOLD ? 1 << which : 0) | (first == null ? 0 : first.inputs)
                | (second == null ? 0 : second.inputs) | (third == null ? 0 : third.inputs);
            draws = sort == DRAWN || first != null && first.draws || second != null && second.draws
                || third != null && third.draws;
        }

        boolean hasFree(int name) {
            return (free >> name & 1) == 1;
        }

        /** Goes no deeper than an expr has parts, 30. */
        private static boolean same(Expr one, Expr other) {
            if (one == other) {
                return true;
            }
            if (one == null || other == null) {
                return false;
            }
            return one.sort == other.sort && one.which == other.which && one.number == other.number
                && same(one.first, other.first) && same(one.second, other.second) && same(one.third, other.third);
        }

        /** Goes no deeper than an expr has parts, 30. */
        private static int countFree(Expr expr, int name) {
            if (expr == null || !expr.hasFree(name)) {
                return 0;
            }
            if (expr.sort == READ) {
                return 1;
            }
            // In the body of a local of this name it is bound, though it may be free in the value.
            boolean bound = expr.sort == LOCAL && expr.which == name;
            return countFree(expr.first, name) + (bound ? 0 : countFree(expr.second, name))
                + countFree(expr.third, name);
        }

        /** Goes no deeper than an expr has parts, 30; the other name must be nowhere in the expr. */
        private static Expr exchanged(Expr expr, int name, int other) {
            if (expr == null || !expr.hasFree(name)) {
                return expr;
            }
            if (expr.sort == READ) {
                return new Expr(READ, other, 0L, null, null, null);
            }
            boolean bound = expr.sort == LOCAL && expr.which == name;
            return new Expr(expr.sort, expr.which, expr.number, exchanged(expr.first, name, other),
                bound ? expr.second : exchanged(expr.second, name, other), exchanged(expr.third, name, other));
        }
    }

    /** The definitions of a cell, in their order. */
    private static final class Code {
        int count;
        final int[] names = new int[DEFINITIONS];
        final Expr[] exprs = new Expr[DEFINITIONS];

        int placeOf(int name) {
            for (int i = 0; i < count && i < DEFINITIONS; i++) {
                if (names[i] == name) {
                    return i;
                }
            }
            return -1;
        }

        void put(int name, Expr expr) {
            int place = placeOf(name);
            if (place < 0 && count < DEFINITIONS) {
                place = count++;
            }
            if (place >= 0) {
                names[place] = name;
                exprs[place] = expr;
            }
        }

        void takeOut(int place) {
            if (count == 0) {
                return;
            }
            count--;
            for (int i = place; i < count; i++) {
                names[i] = names[i + 1];
                exprs[i] = exprs[i + 1];
            }
            exprs[count] = null;
        }

        void clear() {
            count = 0;
            for (int i = 0; i < DEFINITIONS; i++) {
                exprs[i] = null;
            }
        }

        void copy(Code from) {
            count = from.count;
            for (int i = 0; i < DEFINITIONS; i++) {
                names[i] = from.names[i];
                exprs[i] = from.exprs[i];
            }
        }

        boolean sameAs(Code other) {
            if (count != other.count) {
                return false;
            }
            for (int i = 0; i < count; i++) {
                if (names[i] != other.names[i] || !Expr.same(exprs[i], other.exprs[i])) {
                    return false;
                }
            }
            return true;
        }

        int namesDefined() {
            int defined = 0;
            for (int i = 0; i < count; i++) {
                defined |= 1 << names[i];
            }
            return defined;
        }

        int namesRead() {
            int read = 0;
            int found = 0;
            for (int i = 0; i < count; i++) {
                read |= exprs[i] == null ? 0 : exprs[i].free & ~found;
                found |= 1 << names[i];
            }
            return read;
        }

        int namesMentioned() {
            int mentioned = namesDefined();
            for (int i = 0; i < count; i++) {
                mentioned |= exprs[i] == null ? 0 : exprs[i].mentioned;
            }
            return mentioned;
        }

        int inputsUsed() {
            int used = 0;
            for (int i = 0; i < count; i++) {
                used |= exprs[i] == null ? 0 : exprs[i].inputs;
            }
            return used;
        }

        boolean draws() {
            for (int i = 0; i < count; i++) {
                if (exprs[i] != null && exprs[i].draws) {
                    return true;
                }
            }
            return false;
        }

        int exchange(int name, int other) {
            int exchanged = 0;
            for (int i = 0; i < count; i++) {
                if (names[i] == name) {
                    names[i] = other;
                    exchanged++;
                }
                exchanged += Expr.countFree(exprs[i], name);
                exprs[i] = Expr.exchanged(exprs[i], name, other);
            }
            return exchanged;
        }
    }

    /** The code of all cells, as it is now or as a branch keeps it. */
    private static final class Version {
        final boolean[] there = new boolean[CELLS];
        final Code[] codes = new Code[CELLS];

        Version() {
            for (int cell = 0; cell < CELLS; cell++) {
                codes[cell] = new Code();
            }
        }

        int cells() {
            int cells = 0;
            for (int cell = 0; cell < CELLS; cell++) {
                cells |= there[cell] ? 1 << cell : 0;
            }
            return cells;
        }

        void takeAway(int cell) {
            there[cell] = false;
            codes[cell].clear();
        }

        void copyCell(Version from, int cell) {
            there[cell] = from.there[cell];
            codes[cell].copy(from.codes[cell]);
        }

        void copy(Version from) {
            for (int cell = 0; cell < CELLS; cell++) {
                copyCell(from, cell);
            }
        }

        boolean sameCell(Version other, int cell) {
            return there[cell] == other.there[cell] && codes[cell].sameAs(other.codes[cell]);
        }

        /** A cell that is not there has no definitions, so nothing of it is asked or renamed. */
        boolean mentions(int name) {
            for (int cell = 0; cell < CELLS; cell++) {
                if ((codes[cell].namesMentioned() >> name & 1) == 1) {
                    return true;
                }
            }
            return false;
        }

        int exchange(int name, int other) {
            int exchanged = 0;
            for (int cell = 0; cell < CELLS; cell++) {
                exchanged += codes[cell].exchange(name, other);
            }
            return exchanged;
        }
    }

    /** Who defines, reads and needs what, by the code alone; followed anew whenever the code changes. */
    private static final class Links {
        private final Version version;
        /** Of each name the set of the cells that define it. */
        final int[] definers = new int[NAMES];
        /** Of each name the cell that defines it, NONE if there are none or several. */
        final int[] owner = new int[NAMES];
        /** Of each cell the set of the names that it reads. */
        final int[] read = new int[CELLS];
        /** Of each cell the set of the cells that it reads. */
        final int[] direct = new int[CELLS];
        /** Of each cell the set of the cells that it needs, over others or not. */
        final int[] needs = new int[CELLS];
        final int[] wrong = new int[CELLS];

        Links(Version version) {
            this.version = version;
        }

        void follow() {
            followDefinitions();
            followReads();
            followNeeds();
            for (int cell = 0; cell < CELLS; cell++) {
                wrong[cell] = wrongOf(cell);
            }
        }

        private void followDefinitions() {
            for (int name = 0; name < NAMES; name++) {
                definers[name] = 0;
                owner[name] = NONE;
            }
            for (int cell = 0; cell < CELLS; cell++) {
                Code code = version.codes[cell];
                for (int i = 0; i < code.count; i++) {
                    int name = code.names[i];
                    owner[name] = definers[name] == 0 ? cell : NONE;
                    definers[name] |= 1 << cell;
                }
            }
        }

        private void followReads() {
            for (int cell = 0; cell < CELLS; cell++) {
                read[cell] = version.codes[cell].namesRead();
                direct[cell] = 0;
                for (int name = 0; name < NAMES; name++) {
                    if ((read[cell] >> name & 1) == 1) {
                        direct[cell] |= definers[name];
                    }
                }
            }
        }

        private void followNeeds() {
            for (int cell = 0; cell < CELLS; cell++) {
                needs[cell] = direct[cell];
            }
            // After the turn of a cell every way whose inner cells had their turn is known.
            for (int over = 0; over < CELLS; over++) {
                for (int cell = 0; cell < CELLS; cell++) {
                    if ((needs[cell] >> over & 1) == 1) {
                        needs[cell] |= needs[over];
                    }
                }
            }
        }

        private int wrongOf(int cell) {
            int defined = version.codes[cell].namesDefined();
            boolean undefined = false;
            for (int name = 0; name < NAMES; name++) {
                if ((defined >> name & 1) == 1 && owner[name] != cell) {
                    return DOUBLED;
                }
                undefined |= (read[cell] >> name & 1) == 1 && definers[name] == 0;
            }
            if ((needs[cell] >> cell & 1) == 1) {
                return RING;
            }
            return undefined ? UNDEFINED : RIGHT;
        }
    }

    /** What is told from outside. */
    private static final class Resources {
        final long[] inputs = new long[INPUTS];
        int seed;
    }

    /** What is kept of a cell's last run, and all that it was made from. */
    private static final class Result {
        int error = NONE;
        int runs;
        private int count;
        private final int[] names = new int[DEFINITIONS];
        private final long[] numbers = new long[DEFINITIONS];
        final Node[] functions = new Node[DEFINITIONS];
        private final Code code = new Code();
        private final long[] inputs = new long[INPUTS];
        private int seed;
        private final int[] seenKinds = new int[NAMES];
        private final long[] seenMarks = new long[NAMES];

        void forget() {
            error = NONE;
            runs = 0;
            clearKept();
            code.clear();
        }

        private void clearKept() {
            count = 0;
            for (int i = 0; i < DEFINITIONS; i++) {
                functions[i] = null;
            }
        }

        void fail(int failure) {
            error = failure;
            clearKept();
        }

        void begin(Code running, Resources resources) {
            clearKept();
            error = RIGHT;
            runs++;
            code.copy(running);
            seed = resources.seed;
            for (int i = 0; i < INPUTS; i++) {
                inputs[i] = resources.inputs[i];
            }
        }

        void see(int name, int kind, long mark) {
            seenKinds[name] = kind;
            seenMarks[name] = mark;
        }

        boolean sawTheSame(int name, int kind, long mark) {
            return seenKinds[name] == kind && (kind == NOTHING || seenMarks[name] == mark);
        }

        boolean madeFrom(Code running, Resources resources) {
            if (!code.sameAs(running) || code.draws() && seed != resources.seed) {
                return false;
            }
            int used = code.inputsUsed();
            for (int i = 0; i < INPUTS; i++) {
                if ((used >> i & 1) == 1 && inputs[i] != resources.inputs[i]) {
                    return false;
                }
            }
            return true;
        }

        void add(int name, long number, Node function) {
            if (count < DEFINITIONS) {
                names[count] = name;
                numbers[count] = number;
                functions[count] = function;
                count++;
            }
        }

        private int placeOf(int name) {
            for (int i = 0; i < count && i < DEFINITIONS; i++) {
                if (names[i] == name) {
                    return i;
                }
            }
            return -1;
        }

        int kindOf(int name) {
            int place = placeOf(name);
            if (place < 0) {
                return NOTHING;
            }
            return functions[place] == null ? NUMBER : FUNCTION;
        }

        /** By what two kept ones of one kind are told apart: the number, or the function's own number. */
        long markOf(int name) {
            int place = placeOf(name);
            if (place < 0) {
                return 0L;
            }
            return functions[place] == null ? numbers[place] : functions[place].number;
        }

        Node functionOf(int name) {
            int place = placeOf(name);
            return place < 0 ? null : functions[place];
        }
    }

    /**
     * A name that is something, ahead of those of the scope around it; or a function that was found,
     * with the scope in which it was found. One class, so that one store can use all of them again.
     */
    private static final class Node {
        /** Of a function its expr, otherwise null. */
        Expr code;
        int name;
        /** The number that the name is; of a function its own number, which no other one ever has. */
        long number;
        /** The function that the name is, or null. */
        Node function;
        /** The scope around it. */
        Node outer;

        boolean inUse;
        Node madeBefore;
        /** The next one of those that are free, or of those that are still to be looked through. */
        Node next;
    }

    /** Hands out nodes, and takes those back that no result leads to: a run makes too many to leave them. */
    private static final class Store {
        private static final int LEAST = 500;
        private static final int MOST = 10_000_000;

        private final Result[] results;
        private Node lastMade;
        private Node free;
        private Node pending;
        private int handedOut;
        private int lasting;

        Store(Result[] results) {
            this.results = results;
        }

        /** Hands out a node without a code, all else of it as it is told. */
        Node hand(int name, long number, Node function, Node outer) {
            Node node = free;
            if (node == null) {
                node = new Node();
                node.madeBefore = lastMade;
                lastMade = node;
            } else {
                free = node.next;
                node.next = null;
            }
            handedOut++;
            node.name = name;
            node.number = number;
            node.function = function;
            node.outer = outer;
            return node;
        }

        /** To be called between runs alone: what a run has not kept yet is not looked for. */
        void tidy() {
            if (handedOut < lasting + LEAST) {
                return;
            }
            for (int i = 0; i < results.length; i++) {
                Result result = results[i];
                for (int k = 0; result != null && k < DEFINITIONS; k++) {
                    reach(result.functions[k]);
                }
            }
            for (int turn = 0; turn < MOST && pending != null; turn++) {
                Node node = pending;
                pending = node.next;
                node.next = null;
                reach(node.function);
                reach(node.outer);
            }
            takeBack();
        }

        private void reach(Node node) {
            if (node != null && !node.inUse) {
                node.inUse = true;
                node.next = pending;
                pending = node;
            }
        }

        private void takeBack() {
            free = null;
            handedOut = 0;
            lasting = 0;
            for (Node node = lastMade; node != null; node = node.madeBefore) {
                if (node.inUse) {
                    node.inUse = false;
                    lasting++;
                } else {
                    node.code = null;
                    node.function = null;
                    node.outer = null;
                    node.next = free;
                    free = node;
                }
            }
        }
    }

    /** Finds exprs, step by step, with its own rows: calls may nest deeper than Java's calls should. */
    private static final class Machine {
        /** Each begun part leaves at most three parts open in place of itself. */
        private static final int OPEN = 2 * STEPS + 4;
        private static final int TURNS = 1_000_000;

        private final Store store;
        final Resources resources;
        private final Expr[] parts = new Expr[OPEN];
        private final Node[] scopes = new Node[OPEN];
        /** Whether the part is to be ended, what it needs having been found, or to be begun. */
        private final boolean[] ending = new boolean[OPEN];
        private int open;
        private final long[] numbers = new long[STEPS + 1];
        private final Node[] functions = new Node[STEPS + 1];
        private int height;
        private int running;
        private int steps;
        private int draws;
        /** What the cell that is run has read and found up to now. */
        private Node known;
        /** In all runs, so that a function of another run always has another number. */
        private long functionsFound;

        Machine(Store store, Resources resources) {
            this.store = store;
            this.resources = resources;
        }

        void start(int cell) {
            store.tidy();
            running = cell;
            steps = 0;
            draws = 0;
            known = null;
        }

        void know(int name, long number, Node function) {
            known = store.hand(name, number, function, known);
        }

        /** Returns whether the expr could be found. */
        boolean find(Expr expr) {
            open = 0;
            height = 0;
            later(expr, known, false);
            for (int turn = 0; turn < TURNS && open > 0; turn++) {
                open--;
                Expr part = parts[open];
                if (part == null || !(ending[open] ? end(part, scopes[open]) : begin(part, scopes[open]))) {
                    return false;
                }
            }
            return open == 0 && height == 1;
        }

        long foundNumber() {
            return numbers[0];
        }

        Node foundFunction() {
            return functions[0];
        }

        private void later(Expr part, Node scope, boolean end) {
            if (open < OPEN) {
                parts[open] = part;
                scopes[open] = scope;
                ending[open] = end;
                open++;
            }
        }

        private boolean give(long number, Node function) {
            if (height > STEPS) {
                return false;
            }
            numbers[height] = number;
            functions[height] = function;
            height++;
            return true;
        }

        private boolean begin(Expr part, Node scope) {
            if (steps >= STEPS) {
                return false;
            }
            steps++;
            switch (part.sort) {
                case Expr.LITERAL:
                    return give(part.number, null);
                case Expr.READ:
                    return giveNamed(part.which, scope);
                case Expr.TOLD:
                    return give(resources.inputs[part.which], null);
                case Expr.CLOSURE:
                    return giveFunction(part, scope);
                case Expr.OF_TWO:
                case Expr.CALL:
                    later(part, scope, true);
                    later(part.second, scope, false);
                    later(part.first, scope, false);
                    return true;
                default:
                    later(part, scope, true);
                    later(part.first, scope, false);
                    return true;
            }
        }

        private boolean giveNamed(int name, Node scope) {
            for (Node node = scope; node != null; node = node.outer) {
                if (node.name == name) {
                    return give(node.number, node.function);
                }
            }
            return false;
        }

        private boolean giveFunction(Expr part, Node scope) {
            Node function = store.hand(part.which, functionsFound, null, scope);
            function.code = part;
            functionsFound++;
            return give(0L, function);
        }

        private boolean end(Expr part, Node scope) {
            switch (part.sort) {
                case Expr.DRAWN:
                    return endDraw();
                case Expr.OF_TWO:
                    return endTwo(part.which);
                case Expr.CHOICE:
                    return endChoice(part, scope);
                case Expr.LOCAL:
                    return endLocal(part, scope);
                case Expr.CALL:
                    return endCall();
                default:
                    return false;
            }
        }

        private boolean endDraw() {
            if (height < 1 || functions[height - 1] != null || numbers[height - 1] < 1) {
                return false;
            }
            height--;
            draws++;
            int bound = (int) Math.min(numbers[height], (long) MOST_DRAWN_OF);
            int state = resources.seed * 31 + running * 17 + draws;
            int drawn = state * 1664525 + 1013904223 >>> 16;
            return bound > 0 && give(drawn % bound, null);
        }

        private boolean endTwo(int sign) {
            if (height < 2 || functions[height - 1] != null || functions[height - 2] != null) {
                return false;
            }
            height -= 2;
            long first = numbers[height];
            long second = numbers[height + 1];
            switch (sign) {
                case 0:
                    return give(first + second, null);
                case 1:
                    return give(first - second, null);
                case 2:
                    return give(first * second, null);
                default:
                    return give(first < second ? 1 : 0, null);
            }
        }

        private boolean endChoice(Expr part, Node scope) {
            if (height < 1 || functions[height - 1] != null) {
                return false;
            }
            height--;
            later(numbers[height] != 0 ? part.second : part.third, scope, false);
            return true;
        }

        private boolean endLocal(Expr part, Node scope) {
            if (height < 1) {
                return false;
            }
            height--;
            later(part.second, store.hand(part.which, numbers[height], functions[height], scope), false);
            return true;
        }

        private boolean endCall() {
            if (height < 2) {
                return false;
            }
            height -= 2;
            Node called = functions[height];
            if (called == null || called.code == null) {
                return false;
            }
            Node scope = store.hand(called.code.which, numbers[height + 1], functions[height + 1], called.outer);
            later(called.code.second, scope, false);
            return true;
        }
    }

    /** The results of all cells, and what runs them. */
    private static final class Sheet {
        private final Version version;
        private final Links links;
        private final Machine machine;
        private final Result[] results;
        /** Where this sheet's results stand among those of all sheets. */
        private final int start;

        Sheet(Version version, Links links, Machine machine, Result[] results, int start) {
            this.version = version;
            this.links = links;
            this.machine = machine;
            this.results = results;
            this.start = start;
        }

        Result resultOf(int cell) {
            return results[start + cell];
        }

        void forget(int cell) {
            resultOf(cell).forget();
        }

        void forgetAll() {
            for (int cell = 0; cell < CELLS; cell++) {
                resultOf(cell).forget();
            }
        }

        /** Runs those of the wanted cells that are stale when their turn comes; returns how many were run. */
        int settle(int wanted) {
            int pending = wanted & version.cells();
            int ran = 0;
            // In each round a cell has its turn at least, as those that need themselves wait for none.
            for (int round = 0; round < CELLS && pending != 0; round++) {
                for (int cell = 0; cell < CELLS; cell++) {
                    boolean waits = links.wrong[cell] == RIGHT && (links.direct[cell] & pending) != 0;
                    if ((pending >> cell & 1) == 0 || waits) {
                        continue;
                    }
                    pending &= ~(1 << cell);
                    if (isStaleByItself(cell)) {
                        ran += runOne(cell);
                    }
                }
            }
            return ran;
        }

        int staleCells() {
            int cells = version.cells();
            int stale = 0;
            for (int cell = 0; cell < CELLS; cell++) {
                if ((cells >> cell & 1) == 1 && isStaleByItself(cell)) {
                    stale |= 1 << cell;
                }
            }
            // In each round it spreads to those that read a stale cell: there are no longer ways than cells.
            for (int round = 0; round < CELLS; round++) {
                for (int cell = 0; cell < CELLS; cell++) {
                    if (links.wrong[cell] == RIGHT && (links.direct[cell] & stale) != 0) {
                        stale |= 1 << cell;
                    }
                }
            }
            return stale;
        }

        /** Whether it is stale even if no cell that it reads is. */
        private boolean isStaleByItself(int cell) {
            Result result = resultOf(cell);
            if (links.wrong[cell] != RIGHT) {
                return result.error != links.wrong[cell];
            }
            if (result.error == NONE || result.error >= DOUBLED && result.error <= UNDEFINED) {
                return true;
            }
            if (!result.madeFrom(version.codes[cell], machine.resources)) {
                return true;
            }
            for (int name = 0; name < NAMES; name++) {
                if ((links.read[cell] >> name & 1) == 0) {
                    continue;
                }
                Result from = source(name);
                if (!result.sawTheSame(name, kindIn(from, name), markIn(from, name))) {
                    return true;
                }
            }
            return false;
        }

        /** Returns 1, or 0 if it is wrong, which is no run. */
        int runOne(int cell) {
            Result result = resultOf(cell);
            if (links.wrong[cell] != RIGHT) {
                result.fail(links.wrong[cell]);
                return 0;
            }
            Code code = version.codes[cell];
            result.begin(code, machine.resources);
            machine.start(cell);
            if (!readAll(cell, result)) {
                result.fail(UNREADABLE);
                return 1;
            }
            for (int i = 0; i < code.count; i++) {
                if (!machine.find(code.exprs[i])) {
                    result.fail(IMPOSSIBLE);
                    return 1;
                }
                result.add(code.names[i], machine.foundNumber(), machine.foundFunction());
                machine.know(code.names[i], machine.foundNumber(), machine.foundFunction());
            }
            return 1;
        }

        /** Sees every name, also behind one that can't be read: a change of each of them makes the cell stale. */
        private boolean readAll(int cell, Result result) {
            boolean readable = true;
            for (int name = 0; name < NAMES; name++) {
                if ((links.read[cell] >> name & 1) == 0) {
                    continue;
                }
                Result from = source(name);
                result.see(name, kindIn(from, name), markIn(from, name));
                if (from == null || from.kindOf(name) == NOTHING) {
                    readable = false;
                } else {
                    machine.know(name, from.markOf(name), from.functionOf(name));
                }
            }
            return readable;
        }

        /** The result in which the name would be kept, or null if it can't be read. */
        private Result source(int name) {
            int cell = links.owner[name];
            if (cell == NONE || links.wrong[cell] != RIGHT || resultOf(cell).error != RIGHT) {
                return null;
            }
            return resultOf(cell);
        }

        private int kindIn(Result from, int name) {
            return from == null ? NOTHING : from.kindOf(name);
        }

        private long markIn(Result from, int name) {
            return from == null ? 0L : from.markOf(name);
        }
    }
}
