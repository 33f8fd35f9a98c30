import java.util.ArrayList;
import java.util.List;

/** What the tests share: counting what is not as it is due, exprs from texts, and looking at all of an object. */
final class Check {
    interface Call {
        long answer();
    }

    interface Start {
        Cellbrook made();
    }

    interface Act {
        long of(Cellbrook x);
    }

    private final String test;
    private int asked;
    private int failed;

    Check(String test) {
        this.test = test;
    }

    void same(String what, long got, long due) {
        asked++;
        if (got != due) {
            failed++;
            System.out.println(test + ": " + what + " answered " + got + ", due is " + due);
        }
    }

    void same(String what, String got, String due) {
        asked++;
        if (!got.equals(due)) {
            failed++;
            System.out.println(test + ": " + what + " answered\n" + got + "\ndue is\n" + due);
        }
    }

    void yes(String what, boolean got) {
        same(what, got ? 1 : 0, 1);
    }

    void no(String what, boolean got) {
        same(what, got ? 1 : 0, 0);
    }

    /** Checks which exception a call throws; a glance only at what it leaves, as an object has 512 calls in all. */
    void refused(String what, Cellbrook x, Class<? extends RuntimeException> due, Call call) {
        String before = glance(x);
        same(what, answerOf(call), "throws." + due.getSimpleName());
        same(what + " changes nothing", glance(x), before);
    }

    /** Makes the same object twice, and refuses the call on one of them: both must go on alike, in all that can be told. */
    void refusal(String what, Class<? extends RuntimeException> due, Start start, Act act) {
        Cellbrook x = start.made();
        Cellbrook twin = start.made();
        same(what, answerOf(() -> act.of(x)), "throws." + due.getSimpleName());
        same(what + " changes nothing", look(x), look(twin));
        same(what + " changes nothing that is told later", goOn(x), goOn(twin));
    }

    static String answerOf(Call call) {
        try {
            return Long.toString(call.answer());
        } catch (RuntimeException thrown) {
            return "throws." + thrown.getClass().getSimpleName();
        }
    }

    void end() {
        System.out.println(test + ": " + asked + " checked, " + failed + " failed");
        if (failed > 0) {
            System.exit(1);
        }
    }

    private static String glance(Cellbrook x) {
        StringBuilder seen = new StringBuilder();
        for (int cell = 0; cell < 12; cell++) {
            int c = cell;
            String error = answerOf(() -> x.error(c));
            seen.append(error).append(" ");
            if (!error.startsWith("throws")) {
                seen.append(x.runs(cell)).append(" ");
            }
        }
        return seen.append(answerOf(() -> x.differ(0))).toString();
    }

    /** The answers of all questions, as one text. */
    static String look(Cellbrook x) {
        StringBuilder seen = new StringBuilder();
        for (int cell = 0; cell < 12; cell++) {
            int c = cell;
            String error = answerOf(() -> x.error(c));
            if (error.startsWith("throws")) {
                continue;
            }
            seen.append("cell ").append(cell).append(" error ").append(error).append(" stale ").append(x.isStale(cell))
                .append(" runs ").append(x.runs(cell)).append(" reads ").append(x.reads(cell))
                .append(" slice ").append(x.slice(cell)).append(" anew ").append(x.errorAnew(cell));
            for (int name = 0; name < 16; name++) {
                int n = name;
                int kind = x.kind(cell, name);
                if (kind != Cellbrook.NOTHING) {
                    seen.append(" ").append((char) ('a' + name)).append(kind).append(":")
                        .append(answerOf(() -> x.value(c, n)));
                }
                if (x.valueAnew(cell, name) != Cellbrook.NONE) {
                    seen.append(" ").append((char) ('a' + name)).append("anew:").append(x.valueAnew(cell, name));
                }
            }
            seen.append("\n");
        }
        for (int branch = 0; branch < 4; branch++) {
            int b = branch;
            seen.append("branch ").append(answerOf(() -> x.differ(b))).append("\n");
        }
        return seen.toString();
    }

    /** What only calls tell that change something: the mode, the resources, the next numbers, and each expr of the pile. */
    static String goOn(Cellbrook x) {
        StringBuilder told = new StringBuilder();
        told.append("mode ").append(x.mode(Cellbrook.BY_HAND)).append(" seed ").append(x.seed(5)).append(" inputs");
        for (int input = 0; input < 4; input++) {
            told.append(" ").append(x.setInput(input, 100 + input));
        }
        told.append(" cell ").append(answerOf(x::cell)).append(" branch ").append(answerOf(x::keep)).append(" pile");
        for (int cell = 0; cell < 12; cell++) {
            int c = cell;
            if (!answerOf(() -> x.error(c)).startsWith("throws")) {
                goThroughPile(x, cell, told);
                break;
            }
        }
        return told.toString();
    }

    private static void goThroughPile(Cellbrook x, int cell, StringBuilder told) {
        for (int name = 0; name < 16; name++) {
            int n = name;
            answerOf(() -> x.drop(cell, n));
        }
        for (int i = 0; i <= 20; i++) {
            String defined = answerOf(() -> x.define(cell, 0));
            if (defined.startsWith("throws")) {
                break;
            }
            x.run(cell);
            told.append(" | reads ").append(x.reads(cell)).append(" error ").append(x.error(cell))
                .append(" is ").append(answerOf(() -> x.value(cell, 0)));
        }
    }

    /** The number of the name a to p. */
    static int n(char name) {
        return name - 'a';
    }

    static int set(int... members) {
        int set = 0;
        for (int member : members) {
            set |= 1 << member;
        }
        return set;
    }

    static int names(String names) {
        int set = 0;
        for (int i = 0; i < names.length(); i++) {
            set |= 1 << n(names.charAt(i));
        }
        return set;
    }

    /**
     * Puts an expr on the pile that is told as a text: 7, a to p, i0 to i3, (draw e), (+ e e), (- e e),
     * (* e e), (< e e), (if e e e), (let a value body), (fn a body), (call f value).
     */
    static int put(Cellbrook x, String text) {
        List<String> words = new ArrayList<>();
        for (String word : text.replace("(", " ( ").replace(")", " ) ").trim().split("\\s+")) {
            words.add(word);
        }
        int height = put(x, words);
        if (!words.isEmpty()) {
            throw new IllegalArgumentException("too much in " + text);
        }
        return height;
    }

    private static int put(Cellbrook x, List<String> words) {
        String word = words.remove(0);
        if (!word.equals("(")) {
            return putWord(x, word);
        }
        String sort = words.remove(0);
        int name = sort.equals("let") || sort.equals("fn") ? n(words.remove(0).charAt(0)) : -1;
        while (!words.get(0).equals(")")) {
            put(x, words);
        }
        words.remove(0);
        return switch (sort) {
            case "draw" -> x.draw();
            case "+" -> x.two(0);
            case "-" -> x.two(1);
            case "*" -> x.two(2);
            case "<" -> x.two(3);
            case "if" -> x.choose();
            case "let" -> x.local(name);
            case "fn" -> x.function(name);
            case "call" -> x.call();
            default -> throw new IllegalArgumentException(sort);
        };
    }

    private static int putWord(Cellbrook x, String word) {
        if (word.matches("i[0-9]+")) {
            return x.input(Integer.parseInt(word.substring(1)));
        }
        return word.matches("[a-p]") ? x.name(n(word.charAt(0))) : x.number(Long.parseLong(word));
    }

    static int define(Cellbrook x, int cell, char name, String text) {
        put(x, text);
        return x.define(cell, n(name));
    }

    /** A notebook in that mode, with a cell for each text; a text is like "a = 1; b = (+ a 2)". */
    static Cellbrook notebook(int mode, String... cells) {
        Cellbrook x = new Cellbrook();
        x.mode(mode);
        for (String text : cells) {
            int cell = x.cell();
            for (String definition : text.split(";")) {
                if (!definition.isBlank()) {
                    String[] sides = definition.split("=");
                    define(x, cell, sides[0].trim().charAt(0), sides[1].trim());
                }
            }
        }
        return x;
    }
}
