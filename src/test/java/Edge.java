import java.lang.reflect.InvocationTargetException;
import java.lang.reflect.Method;
import java.lang.reflect.Modifier;
import java.nio.file.Files;
import java.nio.file.Path;
import java.util.ArrayList;
import java.util.HashMap;
import java.util.List;
import java.util.Map;

/**
 * A sentence of the document that names an edge, and calls that stand on both sides of it. A call is told by its text,
 * such as "rule(0, 1)", so that it can be made on other objects, too: what a refused call leaves behind is compared
 * with what is there without it. No object is used for more calls than the document promises.
 */
final class Edge {
    private static final int MOST_CALLS = 512;
    private static final int PARTS = 5;
    private static final Map<String, Method> METHODS = methods();
    private static final String DOC = document();
    private static int wrong = 0;
    private static int sentences = 0;

    /** An object and how many calls it has had. */
    private static final class Used {
        private final TermStrategies it = new TermStrategies();
        private int calls = 0;

        long answer(String call) {
            calls++;
            if (calls > MOST_CALLS) {
                throw new IllegalStateException("more calls than are promised: " + call);
            }
            int open = call.indexOf('(');
            Method method = METHODS.get(call.substring(0, open));
            String inside = call.substring(open + 1, call.length() - 1);
            String[] words = inside.isEmpty() ? new String[0] : inside.split(", ");
            Class<?>[] types = method.getParameterTypes();
            Object[] given = new Object[types.length];
            for (int k = 0; k < types.length; k++) {
                given[k] = value(types[k], words[k]);
            }
            try {
                return ((Number) method.invoke(it, given)).longValue();
            } catch (InvocationTargetException | IllegalAccessException e) {
                throw new IllegalStateException(call, e);
            }
        }

        private static Object value(Class<?> type, String word) {
            if (type == boolean.class) {
                return Boolean.valueOf(word);
            }
            long number = word.equals("MOST") ? Integer.MAX_VALUE : word.equals("LEAST") ? Integer.MIN_VALUE
                : word.charAt(0) == '\'' ? word.charAt(1) : Long.parseLong(word);
            if (type == long.class) {
                return number;
            }
            return (int) number;
        }
    }

    private final String sentence;
    private final List<String> history = new ArrayList<>();
    private Used used = new Used();

    private Edge(String sentence) {
        this.sentence = sentence;
    }

    /** The sentence must stand in the document, word by word. */
    static Edge of(String sentence) {
        sentences++;
        Edge edge = new Edge(sentence);
        if (!DOC.contains(sentence)) {
            edge.tell("it doesn't stand in the document");
        }
        return edge;
    }

    private static Map<String, Method> methods() {
        Map<String, Method> all = new HashMap<>();
        for (Method method : TermStrategies.class.getDeclaredMethods()) {
            if (Modifier.isPublic(method.getModifiers())) {
                all.put(method.getName(), method);
            }
        }
        return all;
    }

    private static String document() {
        try {
            return Files.readString(Path.of("../shared/DOC.md")).replaceAll("\\s+", " ");
        } catch (java.io.IOException e) {
            throw new IllegalStateException(e);
        }
    }

    private void tell(String what) {
        wrong++;
        System.out.println("«" + sentence + "»: " + what);
    }

    private void compare(String call, Object got, Object want) {
        if (!got.equals(want)) {
            tell(call + " answered " + got + ", due is " + want);
        }
    }

    long call(String call) {
        history.add(call);
        return used.answer(call);
    }

    /** A new object for the same sentence. */
    Edge anew() {
        history.clear();
        used = new Used();
        return this;
    }

    /** Calls whose answers don't matter here. */
    Edge does(String... calls) {
        for (String call : calls) {
            call(call);
        }
        return this;
    }

    Edge is(String call, long want) {
        compare(call, call(call), want);
        return this;
    }

    /** The same call again and again, which answers one number after the other. */
    Edge numbered(String call, int first, int last) {
        for (int n = first; n <= last; n++) {
            is(call, n);
        }
        return this;
    }

    /** Strategies 1 to n, each of them THEN of the one before it and that again: they begin 3, 7, 15, .. in all. */
    Edge doubled(int n) {
        for (int w = 1; w <= n; w++) {
            is("strategy(3, " + (w - 1) + ", " + (w - 1) + ")", w);
        }
        return this;
    }

    /** A call that is refused: it is counted once, and all else is as it was. */
    Edge refuses(String call, int want) {
        leaves(call, want < -10 ? want + 10 : want);
        return is(call, want);
    }

    /** A call that changes nothing at all. */
    Edge keeps(String call, long want) {
        leaves(call, 0);
        return is(call, want);
    }

    private void leaves(String call, int refusal) {
        Used with = again(call);
        Used without = again(null);
        for (int k = 1; k <= 7; k++) {
            String count = "status(" + (10 + k) + ")";
            long due = without.answer(count) + (k == -refusal ? 1 : 0);
            compare(call + ", " + count, with.answer(count), due);
        }
        for (int part = 0; part < PARTS; part++) {
            compare(call + ", what it leaves", look(again(call), part), look(again(null), part));
        }
    }

    /** Another object with all calls that there were, and one more. */
    private Used again(String more) {
        Used other = new Used();
        for (String call : history) {
            other.answer(call);
        }
        if (more != null) {
            other.answer(more);
        }
        return other;
    }

    /** What can be seen of an object; in parts, since each takes many calls. */
    private static List<String> look(Used it, int part) {
        List<String> seen = new ArrayList<>();
        switch (part) {
            case 0:
                see(it, seen, "fault()");
                for (int what = 0; what < 7; what++) {
                    see(it, seen, "status(" + what + ")");
                }
                for (long i = it.answer("status(6)") - 1; i >= 0; i--) {
                    see(it, seen, "trace(" + i + ")");
                    see(it, seen, "tracePath(" + i + ")");
                }
                break;
            case 1:
                seeTerms(it, seen);
                break;
            case 2:
                seeRules(it, seen);
                break;
            case 3:
                for (int s = 0; s < 8; s++) {
                    see(it, seen, "holds(" + s + ")");
                    for (int i = 0; i < 8; i++) {
                        see(it, seen, "element(" + s + ", " + i + ")");
                    }
                }
                break;
            default:
                see(it, seen, "restore()");
                for (int what = 0; what < 6; what++) {
                    see(it, seen, "status(" + what + ")");
                }
                seeTerms(it, seen);
        }
        return seen;
    }

    private static void see(Used it, List<String> seen, String call) {
        seen.add(call + " = " + it.answer(call));
    }

    private static void seeTerms(Used it, List<String> seen) {
        for (long t = it.answer("status(0)") - 1; t >= 0; t--) {
            for (int what = 0; what < 3; what++) {
                see(it, seen, "termOf(" + t + ", " + what + ")");
            }
            for (int i = 0; i < 4; i++) {
                see(it, seen, "node(" + t + ", " + i + ")");
            }
        }
    }

    private static void seeRules(Used it, List<String> seen) {
        for (long r = it.answer("status(1)") - 1; r >= 0; r--) {
            for (int i = 0; i < 3; i++) {
                see(it, seen, "ruleOf(" + r + ", false, " + i + ")");
                see(it, seen, "ruleOf(" + r + ", true, " + i + ")");
            }
        }
        for (long w = it.answer("status(2)") - 1; w >= 0; w--) {
            for (int what = 0; what < 3; what++) {
                see(it, seen, "strategyOf(" + w + ", " + what + ")");
            }
        }
    }

    /**
     * An object that holds something of everything: terms 0 e(u), 1 u, 2 i(a,e(b)), 3 a, 4 j(v,w), 5 b, 6 i(a,b); rules
     * 0 e(u) to u, 1 a to b; strategies 0 RULE 0, 1 KEEP, 2 FAIL, 3 THEN 0 1, 4 ELSE 2 1, 5 ONCE 0, 6 REPEAT 1, which
     * ends; shelves 0 e(b) in bytes, 1 four longs, 2 strategy 5, 3 shorts 2 2 3 3, 4 e(b without its end, 5 NOTHING,
     * 6 three ints, 7 a row; i commutes, the seed is 5, the fault 3, the trace rule 0 at path 2, the image has five of
     * the terms.
     */
    Edge full() {
        anew().rule("e(u)", "u").rule("a", "b").terms("e(u)", "u", "i(a,e(b))", "a", "j(v,w)");
        is("strategy(0, 0, 0)", 0).is("strategy(1, 0, 0)", 1).is("strategy(2, 0, 0)", 2).is("strategy(3, 0, 1)", 3);
        is("strategy(4, 2, 1)", 4).is("strategy(11, 0, 0)", 5).is("strategy(13, 1, 0)", 6);
        is("commute('i', true)", 0).is("seed(5)", 1).is("image()", 5).terms("b").is("run(5, 2)", 6);
        lay(0, "e(b)").is("row(1, 3, 4)", 1).is("set(1, 0, 5)", 1).is("show(2, 5)", 1).numbers(3, 2, 2, 3, 3);
        return lay(4, "e(b").is("term(4)", -6).is("row(6, 2, 3)", 1);
    }

    // ---- what takes several calls

    /** A row of bytes with a text's letters. */
    Edge lay(int s, String text) {
        is("row(" + s + ", 0, " + text.length() + ")", 1);
        for (int i = 0; i < text.length(); i++) {
            is("set(" + s + ", " + i + ", " + (int) text.charAt(i) + ")", 1);
        }
        return this;
    }

    /** A row of shorts with numbers. */
    Edge numbers(int s, int... numbers) {
        is("row(" + s + ", 1, " + numbers.length + ")", 1);
        for (int i = 0; i < numbers.length; i++) {
            is("set(" + s + ", " + i + ", " + numbers[i] + ")", 1);
        }
        return this;
    }

    /** New terms, by way of shelf 7. */
    Edge terms(String... texts) {
        for (String text : texts) {
            term(text);
        }
        return this;
    }

    private int term(String text) {
        lay(7, text);
        int made = (int) call("term(7)");
        if (made < 0) {
            tell("no term by " + text);
        }
        return made;
    }

    /** The fault of a text; NONE: it makes a term, which is dropped. */
    Edge faults(String text, int want) {
        lay(7, text);
        long made = call("term(7)");
        compare("term of " + text, made < 0 ? made : 0, want < 0 ? 0L : -6L);
        is("fault()", want);
        return made < 0 ? this : does("drop()");
    }

    Edge rule(String left, String right) {
        int one = term(left);
        int other = term(right);
        if (call("rule(" + one + ", " + other + ")") < 0) {
            tell("no rule by " + left + " and " + right);
        }
        return does("drop()", "drop()");
    }

    Edge reads(int t, String text) {
        compare("term " + t, signs(t), text.replaceAll("[(),]", ""));
        return this;
    }

    private String signs(int t) {
        StringBuilder got = new StringBuilder();
        for (long i = 0, n = used.answer("termOf(" + t + ", 0)"); i < n; i++) {
            got.append((char) used.answer("node(" + t + ", " + i + ")"));
        }
        return got.toString();
    }

    /** A run with a text makes another one, and a trace (each rule @ its path). */
    Edge makes(int w, String text, String want, String trace) {
        int t = term(text);
        int made = (int) call("run(" + w + ", " + t + ")");
        compare("run of " + w + " with " + text, made, t + 1);
        if (made < 0) {
            return does("drop()");
        }
        reads(made, want);
        StringBuilder got = new StringBuilder();
        for (long i = 0, n = used.answer("status(6)"); i < n; i++) {
            got.append(i == 0 ? "" : " ").append(used.answer("trace(" + i + ")")).append('@')
                .append(used.answer("tracePath(" + i + ")"));
        }
        compare("the trace of " + w + " with " + text, got.toString(), trace);
        return does("drop()", "drop()");
    }

    Edge fails(int w, String text) {
        return runs(w, text, 1);
    }

    Edge ends(int w, String text) {
        return runs(w, text, 2);
    }

    private Edge runs(int w, String text, long want) {
        int t = term(text);
        compare("trial of " + w + " with " + text, call("trial(" + w + ", " + t + ", 0)"), want);
        compare("run of " + w + " with " + text, call("run(" + w + ", " + t + ")"), want == 1 ? -6L : -7L);
        return does("drop()");
    }

    // ---- texts

    /** An operator of one argument so many times over a text. */
    static String over(int n, String operator, String text) {
        return (operator + "(").repeat(n) + text + ")".repeat(n);
    }

    static void end() {
        System.out.println(sentences + " sentences: "
            + (wrong == 0 ? "all answers are as due" : wrong + " answers are not as due"));
        if (wrong != 0) {
            System.exit(1);
        }
    }
}
