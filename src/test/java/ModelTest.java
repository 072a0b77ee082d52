import java.util.Random;

/** Many calls by draws, each answered by the class and by the model; arguments are a program of their own: runs, first. */
public final class ModelTest {
    private static final String[] SETS = {
        "abefijuv", "aeu", "aeiu", "abijuv", "abcdefghijkluvwxyz", "abeiuvw", "ijkluvwxyz", "aiu", "abiluvwx",
    };

    private final Random random;
    private final long run;
    private final TermStrategies it = new TermStrategies();
    private final Model model = new Model();
    private final StringBuilder log = new StringBuilder();
    private final String letters;
    private int wrong = 0;
    private int made = 0;

    private ModelTest(long run) {
        this.run = run;
        random = new Random(run);
        letters = SETS[draw(SETS.length)];
    }

    public static void main(String[] args) {
        int runs = args.length > 0 ? Integer.parseInt(args[0]) : 600;
        long first = args.length > 1 ? Long.parseLong(args[1]) : 1;
        int wrong = 0;
        long[] seen = new long[8];
        for (long run = first; run < first + runs && wrong < 3; run++) {
            ModelTest test = new ModelTest(run);
            test.go(seen);
            wrong += test.wrong == 0 ? 0 : 1;
        }
        System.out.println("made, failed, ended, overlaps, meets, meets not, meets ends, unified: "
            + java.util.Arrays.toString(seen));
        for (long n : seen) {
            if (n == 0) {
                System.out.println("something that is to be tested never came");
                wrong++;
            }
        }
        if (wrong != 0) {
            System.exit(1);
        }
    }

    private int draw(int n) {
        return random.nextInt(n);
    }

    /** A number below n, or now and then one beside. */
    private int about(int n) {
        if (draw(40) == 0 || n == 0) {
            int[] odd = {-1, n, n + 1, -2, Integer.MAX_VALUE, Integer.MIN_VALUE, 1 << 30};
            return odd[draw(odd.length)];
        }
        return draw(n);
    }

    private long due(String call, long got, long want) {
        log.append(call).append(" = ").append(want).append('\n');
        if (got != want) {
            wrong++;
            System.out.println("run " + run + ": " + call + " answered " + got + ", due is " + want);
        }
        return want;
    }

    private void go(long[] seen) {
        int rounds = 150 + draw(150);
        for (int i = 0; i < rounds && wrong == 0; i++) {
            round(seen);
        }
        for (int t = 0; t < model.status(0) && wrong == 0; t++) {
            lookAt(t);
        }
        for (int what = -2; what < 20; what++) {
            due("status(" + what + ")", it.status(what), model.status(what));
        }
        if (wrong != 0 && System.getenv("LOG") != null) {
            System.out.println(log);
        }
    }

    private void round(long[] seen) {
        switch (draw(20)) {
            case 0:
            case 1:
            case 2:
            case 3:
                writeTerm();
                break;
            case 4:
            case 5:
                makeRule();
                break;
            case 6:
            case 7:
            case 8:
                makeStrategy();
                break;
            case 9:
            case 10:
            case 11:
                runs(seen);
                break;
            case 12:
                matches();
                break;
            case 13:
                unifies(seen);
                break;
            case 14:
                overlaps(seen);
                break;
            case 15:
                shelves();
                break;
            case 16:
                judges();
                break;
            case 17:
                days();
                break;
            case 18:
                turns();
                break;
            default:
                looks();
        }
    }

    // ---- terms

    private void text(StringBuilder out, int size, String from) {
        if (size <= 1) {
            char c;
            do {
                c = from.charAt(draw(from.length()));
            } while (c >= 'e' && c <= 'l');
            out.append(c);
            return;
        }
        boolean two = size > 2 && draw(4) > 0;
        char c = 0;
        for (int i = 0; i < 30; i++) {
            c = from.charAt(draw(from.length()));
            if (two ? c >= 'i' && c <= 'l' : c >= 'e' && c <= 'h') {
                break;
            }
            c = 0;
        }
        if (c == 0) {
            c = two ? 'i' : 'e';
        }
        out.append(c).append('(');
        if (two) {
            int one = 1 + draw(size - 2);
            text(out, one, from);
            out.append(',');
            text(out, size - 1 - one, from);
        } else {
            text(out, size - 1, from);
        }
        out.append(')');
    }

    private int sizeDrawn() {
        int n = draw(10);
        return n < 5 ? 1 + draw(6) : n < 8 ? 1 + draw(14) : 20 + draw(23);
    }

    private void writeTerm() {
        StringBuilder out = new StringBuilder();
        text(out, sizeDrawn(), letters);
        if (draw(12) == 0) {
            out.setCharAt(draw(out.length()), "ab,()eiu z"
                .charAt(draw(10)));
        }
        if (draw(20) == 0) {
            out.setLength(draw(out.length() + 1));
        }
        if (draw(20) == 0) {
            out.append("),(au".charAt(draw(5)));
        }
        write(out.toString());
    }

    private int write(String text) {
        if (text.length() > 160) {
            text = text.substring(0, 160);
        }
        int s = draw(8);
        int sort = draw(4);
        int n = text.length();
        due("row(" + s + ", " + sort + ", " + n + ")", it.row(s, sort, n), model.row(s, sort, n));
        for (int i = 0; i < n; i++) {
            long v = text.charAt(i);
            if (draw(200) == 0) {
                v += 1L << (8 << draw(3));
            }
            due("set(" + s + ", " + i + ", " + v + ")", it.set(s, i, v), model.set(s, i, v));
        }
        return read(s);
    }

    private int read(int s) {
        int t = (int) due("term(" + s + ")", it.term(s), model.term(s));
        due("fault()", it.fault(), model.fault());
        if (t >= 0) {
            lookAt(t);
        }
        if (t == -7) {
            dropSome();
        }
        return t;
    }

    private void dropSome() {
        int n = 1 + draw(20);
        for (int i = 0; i < n; i++) {
            due("drop()", it.drop(), model.drop());
        }
    }

    private void lookAt(int t) {
        int size = (int) due("termOf(" + t + ", 0)", it.termOf(t, 0), model.termOf(t, 0));
        log.append("  ").append(t).append(": ").append(model.textOf(t)).append('\n');
        for (int i = 0; i < size; i++) {
            due("node(" + t + ", " + i + ")", it.node(t, i), model.node(t, i));
        }
    }

    private void looks() {
        int t = about(model.status(0));
        int u = about(model.status(0));
        int i = about(10);
        for (int what = -1; what < 5; what++) {
            due("termOf(" + t + ", " + what + ")", it.termOf(t, what), model.termOf(t, what));
        }
        due("node(" + t + ", " + i + ")", it.node(t, i), model.node(t, i));
        for (int k = -1; k < 41; k++) {
            due("path(" + t + ", " + k + ")", it.path(t, k), model.path(t, k));
        }
        due("same(" + t + ", " + u + ")", it.same(t, u), model.same(t, u));
        int r = about(model.status(1));
        boolean is = draw(2) == 0;
        due("ruleOf(" + r + ", " + is + ", " + i + ")", it.ruleOf(r, is, i), model.ruleOf(r, is, i));
        int w = about(model.status(2));
        for (int what = -1; what < 4; what++) {
            due("strategyOf(" + w + ", " + what + ")", it.strategyOf(w, what), model.strategyOf(w, what));
        }
        for (int what = -1; what < 19; what++) {
            due("status(" + what + ")", it.status(what), model.status(what));
        }
        if (draw(4) == 0) {
            dropSome();
        }
    }

    /** The same terms with arguments in other places, so that SAME BUT FOR ORDER comes up. */
    private void turns() {
        int sign = 'i' + about(4);
        boolean is = draw(3) > 0;
        due("commute(" + sign + ", " + is + ")", it.commute(sign, is), model.commute(sign, is));
        int t = about(model.status(0));
        String text = model.textOf(t);
        if (text.equals("none") || text.length() > 150) {
            return;
        }
        int u = write(turned(text, new int[1]));
        due("same(" + t + ", " + u + ")", it.same(t, u), model.same(t, u));
        int v = about(model.status(0));
        due("same(" + v + ", " + u + ")", it.same(v, u), model.same(v, u));
    }

    private String turned(String text, int[] at) {
        char c = text.charAt(at[0]++);
        if (c < 'e' || c > 'l') {
            return "" + c;
        }
        at[0]++;
        String one = turned(text, at);
        at[0]++;
        if (c < 'i') {
            return c + "(" + one + ")";
        }
        String two = turned(text, at);
        at[0]++;
        return c + "(" + (draw(2) == 0 ? one + "," + two : two + "," + one) + ")";
    }

    // ---- rules

    private void makeRule() {
        int left = about(model.status(0));
        int right = about(model.status(0));
        switch (draw(6)) {
            case 0:
            case 1: {
                StringBuilder out = new StringBuilder();
                text(out, 2 + draw(5), letters);
                left = write(out.toString());
                break;
            }
            case 2: {
                String[][] some = {{"e(u)", "u"}, {"e(u)", "e(e(u))"}, {"i(u,v)", "i(v,u)"}, {"i(u,u)", "u"},
                    {"i(u,a)", "u"}, {"a", "i(a,a)"}, {"a", "e(a)"}, {"i(u,i(v,w))", "i(i(u,v),w)"}, {"e(u)", "i(u,u)"},
                    {"i(e(u),v)", "e(i(u,v))"}, {"i(e(u),u)", "a"}, {"a", "b"}, {"b", "a"}, {"i(u,v)", "u"},
                    {"a", "e(e(e(e(e(e(e(e(a))))))))"}, {"i(i(i(u,v),i(w,x)),i(i(y,z),i(u,v)))", "i(z,u)"},
                    {"i(i(u,a),i(v,i(w,u)))", "i(u,i(v,w))"}, {"i(i(u,v),i(v,u))", "i(v,u)"}, {"i(u,e(v))", "j(v,i(u,v))"}};
                String[] two = some[draw(some.length)];
                left = write(two[0]);
                right = write(two[1]);
                break;
            }
            case 3: {
                String text = model.textOf(left);
                StringBuilder out = new StringBuilder();
                String known = "a";
                for (char c = 'u'; c <= 'z'; c++) {
                    if (text.indexOf(c) >= 0) {
                        known += c;
                    }
                }
                text(out, 1 + draw(6), known + "eij");
                right = write(out.toString());
                break;
            }
            default:
        }
        due("rule(" + left + ", " + right + ")", it.rule(left, right), model.rule(left, right));
    }

    private void matches() {
        for (int k = 0; k < 8; k++) {
            int r = about(model.status(1));
            int t = about(model.status(0));
            int p = about(model.status(0));
            int i = about(5);
            due("fits(" + r + ", " + t + ", -1)", it.fits(r, t, -1), model.fits(r, t, -1));
            int node = (int) due("fits(" + r + ", " + t + ", " + i + ")", it.fits(r, t, i), model.fits(r, t, i));
            due("redexes(" + t + ")", it.redexes(t), model.redexes(t));
            for (int v = 'u' - 1; v <= 'z' + 1; v++) {
                int j = about(3);
                due("bound(" + p + ", " + t + ", " + v + ", " + j + ")", it.bound(p, t, v, j), model.bound(p, t, v, j));
            }
            int at = draw(3) == 0 ? about(20) : node;
            int u = (int) due("rewrite(" + r + ", " + t + ", " + at + ")", it.rewrite(r, t, at), model.rewrite(r, t, at));
            if (u >= 0) {
                lookAt(u);
            }
        }
    }

    // ---- strategies

    private void makeStrategy() {
        for (int k = 0; k < 3; k++) {
            int kind = draw(3) == 0 ? 0 : draw(60) == 0 ? about(14) : 1 + draw(13);
            int n = model.status(2);
            int a = kind == 0 ? about(model.status(1)) : about(n);
            int b = about(n);
            due("strategy(" + kind + ", " + a + ", " + b + ")", it.strategy(kind, a, b), model.strategy(kind, a, b));
        }
    }

    private void runs(long[] seen) {
        for (int k = 0; k < 4; k++) {
            int n = model.status(2);
            int w = draw(2) == 0 || n == 0 ? about(n) : Math.max(0, n - 1 - draw(6));
            int t = about(model.status(0));
            for (int what = draw(30) == 0 ? -1 : 0; what < 3; what++) {
                long x = due("trial(" + w + ", " + t + ", " + what + ")", it.trial(w, t, what), model.trial(w, t, what));
                if (what == 0 && x >= 0) {
                    seen[(int) x]++;
                }
            }
            int u = (int) due("run(" + w + ", " + t + ")", it.run(w, t), model.run(w, t));
            int steps = (int) due("status(6)", it.status(6), model.status(6));
            for (int i = -1; i <= steps; i++) {
                due("trace(" + i + ")", it.trace(i), model.trace(i));
                due("tracePath(" + i + ")", it.tracePath(i), model.tracePath(i));
            }
            if (u >= 0) {
                lookAt(u);
            }
            int v = draw(4) == 0 ? about(model.status(0)) : t;
            int m = draw(2) == 0 ? steps : about(steps);
            int x = (int) due("replay(" + v + ", " + m + ")", it.replay(v, m), model.replay(v, m));
            if (x >= 0) {
                lookAt(x);
            }
            if (u == -7 && draw(2) == 0) {
                dropSome();
            }
        }
    }

    private void judges() {
        int s = draw(8);
        int n = draw(12);
        int sort = draw(4);
        int w = about(model.status(2));
        due("row(" + s + ", " + sort + ", " + 2 * n + ")", it.row(s, sort, 2 * n), model.row(s, sort, 2 * n));
        for (int k = 0; k < n; k++) {
            int t = Math.max(0, draw(model.status(0) + 1) - 1);
            int u = about(model.status(0));
            int x = (int) due("run(" + w + ", " + t + ")", it.run(w, t), model.run(w, t));
            if (x >= 0) {
                u = x;
            }
            due("set(" + s + ", " + 2 * k + ")", it.set(s, 2 * k, t), model.set(s, 2 * k, t));
            due("set(" + s + ", " + (2 * k + 1) + ")", it.set(s, 2 * k + 1, u), model.set(s, 2 * k + 1, u));
        }
        for (int k = 0; k < 4; k++) {
            int m = draw(3) == 0 ? about(n + 1) : n;
            due("judge(" + s + ", " + w + ", " + m + ")", it.judge(s, w, m), model.judge(s, w, m));
            w = about(model.status(2));
            if (draw(10) == 0) {
                s = about(8);
            }
        }
    }

    // ---- rules beside rules

    private void unifies(long[] seen) {
        for (int k = 0; k < 8; k++) {
            int t = about(model.status(0));
            int u = about(model.status(0));
            int x = (int) due("unify(" + t + ", " + u + ")", it.unify(t, u), model.unify(t, u));
            if (x >= 0) {
                seen[7]++;
                lookAt(x);
            }
            if (x == -7) {
                dropSome();
            }
        }
    }

    private void overlaps(long[] seen) {
        for (int k = 0; k < 4; k++) {
            int r = about(model.status(1));
            int q = about(model.status(1));
            int n = (int) due("overlaps(" + r + ", " + q + ")", it.overlaps(r, q), model.overlaps(r, q));
            for (int i = draw(10) == 0 ? -1 : 0; i <= n && i < 5; i++) {
                seen[3]++;
                for (int which = 0; which < 3; which++) {
                    int x = (int) due("overlap(" + r + ", " + q + ", " + i + ", " + which + ")",
                        it.overlap(r, q, i, which), model.overlap(r, q, i, which));
                    if (x >= 0) {
                        lookAt(x);
                    } else if (x == -7) {
                        dropSome();
                    }
                }
                int m = (int) due("meets(" + r + ", " + q + ", " + i + ")", it.meets(r, q, i), model.meets(r, q, i));
                if (m >= 0) {
                    seen[m == 1 ? 4 : m == 0 ? 5 : 6]++;
                }
            }
        }
    }

    // ---- the rest

    private void days() {
        int v = random.nextInt();
        int n = about(41);
        if (draw(3) == 0) {
            due("seed(" + v + ")", it.seed(v), model.seed(v));
        }
        due("days(" + n + ")", it.days(n), model.days(n));
        for (int t = 0; t < model.status(0); t++) {
            lookAt(t);
        }
        if (made == 0 || draw(4) == 0) {
            made++;
            due("image()", it.image(), model.image());
        } else if (draw(2) == 0) {
            due("restore()", it.restore(), model.restore());
            for (int t = 0; t < model.status(0); t++) {
                lookAt(t);
            }
            for (int s = 0; s < 8; s++) {
                due("holds(" + s + ")", it.holds(s), model.holds(s));
            }
        }
    }

    private void shelves() {
        for (int k = 0; k < 12; k++) {
            int s = about(8);
            int q = draw(3) == 0 ? s : about(8);
            int w = draw(4) == 0 ? -1 : about(model.status(2));
            int i = about(20);
            int j = about(20);
            int n = about(draw(2) == 0 ? 10 : 161);
            switch (draw(6)) {
                case 0:
                    due("show(" + s + ", " + w + ")", it.show(s, w), model.show(s, w));
                    break;
                case 1:
                    due("row(" + s + ", " + i + ", " + n + ")", it.row(s, i % 5, n), model.row(s, i % 5, n));
                    break;
                case 2:
                    due("copy(" + s + ", " + q + ", " + i + ", " + j + ", " + n + ")",
                        it.copy(s, q, i, j, n), model.copy(s, q, i, j, n));
                    break;
                case 3: {
                    long v = random.nextLong();
                    due("set(" + s + ", " + i + ", " + v + ")", it.set(s, i, v), model.set(s, i, v));
                    break;
                }
                case 4:
                    read(s);
                    break;
                default:
                    for (int as = -1; as < 6; as++) {
                        due("says(" + s + ", " + as + ")", it.says(s, as), model.says(s, as));
                    }
            }
            due("holds(" + s + ")", it.holds(s), model.holds(s));
            for (int e = -1; e < 30; e++) {
                due("element(" + s + ", " + e + ")", it.element(s, e), model.element(s, e));
            }
        }
    }
}
