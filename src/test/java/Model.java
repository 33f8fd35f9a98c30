import java.util.ArrayList;
import java.util.HashMap;
import java.util.List;
import java.util.Map;
import java.util.TreeMap;
import java.util.TreeSet;
import java.util.Set;

/**
 * The document once more, as plainly as it can be said, with the Java library and without a thought of speed or room.
 * ModelTest asks it and the class the same.
 */
final class Model {
    record Expr(String sort, int which, long number, List<Expr> of) {
        int parts() {
            int parts = 1;
            for (Expr part : of) {
                parts += part.parts();
            }
            return parts;
        }

        /** The names of the locals and functions around the k-th part of it. */
        boolean binds(int k) {
            return sort.equals("function") || sort.equals("local") && k == 1;
        }

        void free(Set<Integer> bound, Set<Integer> free) {
            if (sort.equals("name") && !bound.contains(which)) {
                free.add(which);
            }
            for (int k = 0; k < of.size(); k++) {
                Set<Integer> within = new TreeSet<>(bound);
                if (binds(k)) {
                    within.add(which);
                }
                of.get(k).free(within, free);
            }
        }

        boolean mentions(int name) {
            if (which == name && (sort.equals("name") || sort.equals("local") || sort.equals("function"))) {
                return true;
            }
            for (Expr part : of) {
                if (part.mentions(name)) {
                    return true;
                }
            }
            return false;
        }

        boolean has(String wanted, int input) {
            if (sort.equals(wanted) && which == input) {
                return true;
            }
            for (Expr part : of) {
                if (part.has(wanted, input)) {
                    return true;
                }
            }
            return false;
        }

        Expr renamed(int name, int other, boolean bound, int[] count) {
            if (sort.equals("name") && which == name && !bound) {
                count[0]++;
                return new Expr("name", other, 0, of);
            }
            List<Expr> parts = new ArrayList<>();
            for (int k = 0; k < of.size(); k++) {
                parts.add(of.get(k).renamed(name, other, bound || binds(k) && which == name, count));
            }
            return new Expr(sort, which, number, parts);
        }
    }

    record Definition(int name, Expr expr) {
    }

    static final class Function {
        final Expr expr;
        final Map<Integer, Object> scope;

        Function(Expr expr, Map<Integer, Object> scope) {
            this.expr = expr;
            this.scope = scope;
        }
    }

    static final class Impossible extends Exception {
        private static final long serialVersionUID = 1L;
    }

    /** What a cell's last run left. */
    static final class Result {
        int error = -1;
        int runs;
        Map<Integer, Object> kept = new TreeMap<>();
        List<Definition> code;
        long[] inputs;
        int seed;
        Map<Integer, Object> seen = new TreeMap<>();
    }

    private final List<Expr> pile = new ArrayList<>();
    private Map<Integer, List<Definition>> cells = new TreeMap<>();
    private int made;
    private final Map<Integer, Result> results = new HashMap<>();
    private final long[] inputs = new long[4];
    private int seed;
    private int mode;
    private final List<Map<Integer, List<Definition>>> branches = new ArrayList<>();

    private int steps;
    private int draws;
    private int running;

    // exprs

    private void index(boolean right) {
        if (!right) {
            throw new IndexOutOfBoundsException();
        }
    }

    private void argument(boolean right) {
        if (!right) {
            throw new IllegalArgumentException();
        }
    }

    private void state(boolean right) {
        if (!right) {
            throw new IllegalStateException();
        }
    }

    private void isName(int name) {
        index(name >= 0 && name <= 15);
    }

    private void isCell(int cell) {
        index(cells.containsKey(cell));
    }

    private int leaf(String sort, int which, long number) {
        state(pile.size() < 20);
        pile.add(new Expr(sort, which, number, List.of()));
        return pile.size();
    }

    private int made(String sort, int which, int count) {
        state(pile.size() >= count);
        List<Expr> top = pile.subList(pile.size() - count, pile.size());
        Expr expr = new Expr(sort, which, 0, List.copyOf(top));
        state(expr.parts() <= 30);
        top.clear();
        pile.add(expr);
        return pile.size();
    }

    int number(long number) {
        return leaf("number", 0, number);
    }

    int name(int name) {
        isName(name);
        return leaf("name", name, 0);
    }

    int input(int input) {
        index(input >= 0 && input <= 3);
        return leaf("input", input, 0);
    }

    int draw() {
        return made("draw", 0, 1);
    }

    int two(int sign) {
        argument(sign >= 0 && sign <= 3);
        return made("two", sign, 2);
    }

    int choose() {
        return made("choose", 0, 3);
    }

    int local(int name) {
        isName(name);
        return made("local", name, 2);
    }

    int function(int name) {
        isName(name);
        return made("function", name, 1);
    }

    int call() {
        return made("call", 0, 2);
    }

    // cells

    int cell() {
        state(made < 12);
        cells.put(made, List.of());
        results.put(made, new Result());
        made++;
        behind();
        return made - 1;
    }

    private int placeOf(int cell, int name) {
        List<Definition> code = cells.get(cell);
        for (int i = 0; i < code.size(); i++) {
            if (code.get(i).name == name) {
                return i;
            }
        }
        return -1;
    }

    int define(int cell, int name) {
        isCell(cell);
        isName(name);
        int place = placeOf(cell, name);
        state(!pile.isEmpty() && (place >= 0 || cells.get(cell).size() < 4));
        List<Definition> code = new ArrayList<>(cells.get(cell));
        Definition definition = new Definition(name, pile.remove(pile.size() - 1));
        if (place >= 0) {
            code.set(place, definition);
        } else {
            code.add(definition);
        }
        cells.put(cell, code);
        behind();
        return code.size();
    }

    int drop(int cell, int name) {
        isCell(cell);
        isName(name);
        int place = placeOf(cell, name);
        state(place >= 0);
        List<Definition> code = new ArrayList<>(cells.get(cell));
        code.remove(place);
        cells.put(cell, code);
        behind();
        return code.size();
    }

    int remove(int cell) {
        isCell(cell);
        cells.remove(cell);
        results.remove(cell);
        behind();
        return cells.size();
    }

    int rename(int name, int other) {
        isName(name);
        isName(other);
        state(name != other);
        boolean defined = false;
        for (List<Definition> code : cells.values()) {
            for (Definition definition : code) {
                state(definition.name != other && !definition.expr.mentions(other));
                defined |= definition.name == name;
            }
        }
        if (!defined) {
            return 0;
        }
        int[] count = new int[1];
        for (int cell : cells.keySet()) {
            List<Definition> code = new ArrayList<>();
            for (Definition definition : cells.get(cell)) {
                count[0] += definition.name == name ? 1 : 0;
                code.add(new Definition(definition.name == name ? other : definition.name,
                    definition.expr.renamed(name, other, false, count)));
            }
            cells.put(cell, code);
        }
        behind();
        return count[0];
    }

    // what the code tells

    private Set<Integer> readOf(int cell) {
        Set<Integer> read = new TreeSet<>();
        Set<Integer> ahead = new TreeSet<>();
        for (Definition definition : cells.get(cell)) {
            Set<Integer> free = new TreeSet<>();
            definition.expr.free(new TreeSet<>(), free);
            free.removeAll(ahead);
            read.addAll(free);
            ahead.add(definition.name);
        }
        return read;
    }

    private Set<Integer> definersOf(int name) {
        Set<Integer> definers = new TreeSet<>();
        for (int cell : cells.keySet()) {
            if (placeOf(cell, name) >= 0) {
                definers.add(cell);
            }
        }
        return definers;
    }

    private Set<Integer> directOf(int cell) {
        Set<Integer> direct = new TreeSet<>();
        for (int name : readOf(cell)) {
            direct.addAll(definersOf(name));
        }
        return direct;
    }

    private void need(int cell, Set<Integer> needed) {
        for (int other : directOf(cell)) {
            if (needed.add(other)) {
                need(other, needed);
            }
        }
    }

    private Set<Integer> needsOf(int cell) {
        Set<Integer> needed = new TreeSet<>();
        need(cell, needed);
        return needed;
    }

    private int wrongOf(int cell) {
        for (Definition definition : cells.get(cell)) {
            if (definersOf(definition.name).size() > 1) {
                return 1;
            }
        }
        if (needsOf(cell).contains(cell)) {
            return 2;
        }
        for (int name : readOf(cell)) {
            if (definersOf(name).isEmpty()) {
                return 3;
            }
        }
        return 0;
    }

    // running

    /** What is kept of a name for those that read it; null if it can't be read. */
    private Object readable(int name, Map<Integer, Result> from) {
        Set<Integer> definers = definersOf(name);
        if (definers.size() != 1) {
            return null;
        }
        int cell = definers.iterator().next();
        return wrongOf(cell) != 0 || from.get(cell).error != 0 ? null : from.get(cell).kept.get(name);
    }

    private int runCell(int cell, Map<Integer, Result> from) {
        Result result = from.get(cell);
        result.kept = new TreeMap<>();
        if (wrongOf(cell) != 0) {
            result.error = wrongOf(cell);
            return 0;
        }
        result.runs++;
        result.code = cells.get(cell);
        result.inputs = inputs.clone();
        result.seed = seed;
        result.seen = new TreeMap<>();
        boolean all = true;
        for (int name : readOf(cell)) {
            Object value = readable(name, from);
            all &= value != null;
            if (value != null) {
                result.seen.put(name, value);
            }
        }
        result.error = all ? 0 : 5;
        if (all) {
            findAll(cell, result);
        }
        return 1;
    }

    private void findAll(int cell, Result result) {
        Map<Integer, Object> scope = new HashMap<>(result.seen);
        running = cell;
        steps = 0;
        draws = 0;
        try {
            for (Definition definition : cells.get(cell)) {
                Object value = found(definition.expr, scope);
                scope = new HashMap<>(scope);
                scope.put(definition.name, value);
                result.kept.put(definition.name, value);
            }
        } catch (Impossible impossible) {
            result.error = 4;
            result.kept = new TreeMap<>();
        }
    }

    private long numberOf(Object value) throws Impossible {
        if (value instanceof Long number) {
            return number;
        }
        throw new Impossible();
    }

    private Object found(Expr expr, Map<Integer, Object> scope) throws Impossible {
        steps++;
        if (steps > 300) {
            throw new Impossible();
        }
        switch (expr.sort) {
            case "number":
                return expr.number;
            case "name":
                return scope.get(expr.which);
            case "input":
                return inputs[expr.which];
            case "draw":
                return drawn(numberOf(found(expr.of.get(0), scope)));
            case "two":
                return ofTwo(expr.which, numberOf(found(expr.of.get(0), scope)), numberOf(found(expr.of.get(1), scope)));
            case "choose":
                return found(expr.of.get(numberOf(found(expr.of.get(0), scope)) != 0 ? 1 : 2), scope);
            case "local":
                Map<Integer, Object> within = new HashMap<>(scope);
                within.put(expr.which, found(expr.of.get(0), scope));
                return found(expr.of.get(1), within);
            case "function":
                return new Function(expr, scope);
            default:
                Object called = found(expr.of.get(0), scope);
                Object value = found(expr.of.get(1), scope);
                if (!(called instanceof Function)) {
                    throw new Impossible();
                }
                Map<Integer, Object> body = new HashMap<>(((Function) called).scope);
                body.put(((Function) called).expr.which, value);
                return found(((Function) called).expr.of.get(0), body);
        }
    }

    private long ofTwo(int sign, long first, long second) {
        return sign == 0 ? first + second : sign == 1 ? first - second : sign == 2 ? first * second
            : first < second ? 1 : 0;
    }

    private long drawn(long n) throws Impossible {
        if (n < 1) {
            throw new Impossible();
        }
        draws++;
        int state = seed * 31 + running * 17 + draws;
        state = state * 1664525 + 1013904223;
        return (state >>> 16) % (int) Math.min(n, 2147483647L);
    }

    private boolean sameValue(Object one, Object other) {
        return one instanceof Long ? one.equals(other) : one == other;
    }

    private boolean staleAlone(int cell, Map<Integer, Result> from) {
        Result result = from.get(cell);
        if (wrongOf(cell) != 0) {
            return result.error != wrongOf(cell);
        }
        if (result.error < 0 || result.error >= 1 && result.error <= 3 || !result.code.equals(cells.get(cell))) {
            return true;
        }
        for (Definition definition : cells.get(cell)) {
            for (int input = 0; input < 4; input++) {
                if (definition.expr.has("input", input) && result.inputs[input] != inputs[input]) {
                    return true;
                }
            }
            if (definition.expr.has("draw", 0) && result.seed != seed) {
                return true;
            }
        }
        for (int name : readOf(cell)) {
            if (!sameValue(result.seen.get(name), readable(name, from))) {
                return true;
            }
        }
        return false;
    }

    private boolean stale(int cell) {
        if (staleAlone(cell, results)) {
            return true;
        }
        if (wrongOf(cell) != 0) {
            return false;
        }
        for (int other : directOf(cell)) {
            if (stale(other)) {
                return true;
            }
        }
        return false;
    }

    private int settle(int cell, Set<Integer> looked, Map<Integer, Result> from) {
        if (!looked.add(cell)) {
            return 0;
        }
        int ran = 0;
        for (int other : directOf(cell)) {
            ran += settle(other, looked, from);
        }
        return staleAlone(cell, from) ? ran + runCell(cell, from) : ran;
    }

    private void behind() {
        if (mode == 0) {
            Set<Integer> looked = new TreeSet<>();
            for (int cell : cells.keySet()) {
                settle(cell, looked, results);
            }
        }
    }

    long setInput(int input, long value) {
        index(input >= 0 && input <= 3);
        long before = inputs[input];
        inputs[input] = value;
        behind();
        return before;
    }

    int seed(int told) {
        int before = seed;
        seed = told;
        behind();
        return before;
    }

    int mode(int told) {
        argument(told >= 0 && told <= 2);
        int before = mode;
        mode = told;
        behind();
        return before;
    }

    int run(int cell) {
        isCell(cell);
        return mode == 2 ? runCell(cell, results) : settle(cell, new TreeSet<>(), results);
    }

    // branches

    int keep() {
        state(branches.size() < 4);
        branches.add(new TreeMap<>(cells));
        return branches.size() - 1;
    }

    boolean take(int branch, int cell) {
        index(branch >= 0 && branch < branches.size() && cell >= 0 && cell < made);
        List<Definition> now = cells.get(cell);
        List<Definition> then = branches.get(branch).get(cell);
        if (now == null ? then == null : now.equals(then)) {
            return false;
        }
        if (then == null) {
            cells.remove(cell);
            results.remove(cell);
        } else {
            cells.put(cell, then);
            results.putIfAbsent(cell, new Result());
        }
        behind();
        return true;
    }

    int differ(int branch) {
        index(branch >= 0 && branch < branches.size());
        int differing = 0;
        for (int cell = 0; cell < 12; cell++) {
            List<Definition> now = cells.get(cell);
            List<Definition> then = branches.get(branch).get(cell);
            differing |= (now == null ? then == null : now.equals(then)) ? 0 : 1 << cell;
        }
        return differing;
    }

    // questions

    int error(int cell) {
        isCell(cell);
        return results.get(cell).error;
    }

    boolean isStale(int cell) {
        isCell(cell);
        return stale(cell);
    }

    int kind(int cell, int name) {
        isCell(cell);
        isName(name);
        Object value = results.get(cell).kept.get(name);
        return value == null ? 0 : value instanceof Long ? 1 : 2;
    }

    long value(int cell, int name) {
        isCell(cell);
        isName(name);
        state(results.get(cell).kept.get(name) instanceof Long);
        return (Long) results.get(cell).kept.get(name);
    }

    private Result anew(int cell) {
        Map<Integer, Result> from = new HashMap<>();
        for (int each : cells.keySet()) {
            from.put(each, new Result());
        }
        Set<Integer> looked = new TreeSet<>();
        for (int each : cells.keySet()) {
            settle(each, looked, from);
        }
        return from.get(cell);
    }

    long valueAnew(int cell, int name) {
        isCell(cell);
        isName(name);
        return anew(cell).kept.get(name) instanceof Long number ? number : -1;
    }

    int errorAnew(int cell) {
        isCell(cell);
        return anew(cell).error;
    }

    private int set(Set<Integer> members) {
        int set = 0;
        for (int member : members) {
            set |= 1 << member;
        }
        return set;
    }

    int reads(int cell) {
        isCell(cell);
        return set(readOf(cell));
    }

    int slice(int cell) {
        isCell(cell);
        return set(needsOf(cell)) | 1 << cell;
    }

    int runs(int cell) {
        isCell(cell);
        return results.get(cell).runs;
    }
}
