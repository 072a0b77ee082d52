import java.util.ArrayList;
import java.util.HashMap;
import java.util.LinkedHashMap;
import java.util.List;
import java.util.Map;

/**
 * The document once more, in the plainest way: terms as trees, matches as lists of all ways, runs as calls within
 * calls. What it answers is compared with what the class answers.
 */
final class Model {
    private static final int NONE = -1;

    private static final class Ends extends RuntimeException {
        Ends() {
            super(null, null, false, false);
        }
    }

    record Term(char sign, List<Term> args) {
        int size() {
            int n = 1;
            for (Term a : args) {
                n += a.size();
            }
            return n;
        }

        int depth() {
            int n = 0;
            for (Term a : args) {
                n = Math.max(n, a.depth());
            }
            return n + 1;
        }

        boolean isVariable() {
            return sign >= 'u' && sign <= 'z' || sign >= 'U' && sign <= 'Z';
        }

        List<Term> nodes() {
            List<Term> all = new ArrayList<>();
            all.add(this);
            for (Term a : args) {
                all.addAll(a.nodes());
            }
            return all;
        }

        List<Long> paths(long here) {
            List<Long> all = new ArrayList<>();
            all.add(here);
            for (int k = 0; k < args.size(); k++) {
                all.addAll(args.get(k).paths(3 * here + k + 1));
            }
            return all;
        }

        /** This with another term at a node. */
        Term with(int node, Term by) {
            if (node == 0) {
                return by;
            }
            List<Term> made = new ArrayList<>();
            int from = 1;
            for (Term a : args) {
                int n = a.size();
                made.add(node >= from && node < from + n ? a.with(node - from, by) : a);
                from += n;
            }
            return new Term(sign, made);
        }

        Term put(Map<Character, Term> in) {
            if (isVariable()) {
                return in.getOrDefault(sign, this);
            }
            List<Term> made = new ArrayList<>();
            for (Term a : args) {
                made.add(a.put(in));
            }
            return new Term(sign, made);
        }

        int variables() {
            int bits = 0;
            for (Term n : nodes()) {
                if (n.isVariable()) {
                    bits |= 1 << (n.sign - 'u');
                }
            }
            return bits;
        }
    }

    record Rule(Term left, Term right) {
    }

    record Strategy(int kind, int a, int b) {
    }

    record Step(int rule, long path) {
    }

    record Overlap(Term peak, Term one, Term two) {
    }

    record Image(List<Term> terms, List<Rule> rules, List<Strategy> strategies, boolean[] commutes, int seed) {
    }

    private List<Term> terms = new ArrayList<>();
    private List<Rule> rules = new ArrayList<>();
    private List<Strategy> strategies = new ArrayList<>();
    private boolean[] commutes = new boolean[4];
    private int seed = 1;
    private Image image = null;
    private List<Step> trace = new ArrayList<>();
    private int fault = NONE;
    private final int[] refusals = new int[8];
    private final Object[] shelves = new Object[8]; // null, Integer (a strategy), long[]
    private final int[] sorts = new int[8];

    private int no(int number) {
        refusals[-number]++;
        return number;
    }

    private static boolean in(int i, int n) {
        return i >= 0 && i < n;
    }

    int row(int s, int sort, int n) {
        if (!in(s, 8)) return no(-1);
        if (n < 0) return no(-4);
        if (!in(sort, 4)) return no(-6);
        if (n > 160) return no(-7);
        shelves[s] = new long[n];
        sorts[s] = sort;
        return 1;
    }

    private int rowNo(int s) {
        if (!in(s, 8)) return -1;
        if (shelves[s] instanceof Integer) return -2;
        return shelves[s] == null ? -3 : 0;
    }

    int set(int s, int i, long v) {
        if (rowNo(s) != 0) return no(rowNo(s));
        long[] row = (long[]) shelves[s];
        if (!in(i, row.length)) return no(-5);
        row[i] = sorts[s] == 0 ? (byte) v : sorts[s] == 1 ? (short) v : sorts[s] == 2 ? (int) v : v;
        return 1;
    }

    int copy(int p, int q, int i, int j, int n) {
        if (!in(p, 8) || !in(q, 8)) return no(-1);
        if (shelves[p] instanceof Integer || shelves[q] instanceof Integer) return no(-2);
        if (shelves[p] != null && shelves[q] != null && sorts[p] != sorts[q]) return no(-2);
        if (shelves[p] == null || shelves[q] == null) return no(-3);
        if (n < 0) return no(-4);
        long[] from = ((long[]) shelves[p]).clone();
        long[] to = (long[]) shelves[q];
        if (i < 0 || j < 0 || (long) i + n > from.length || (long) j + n > to.length) return no(-5);
        for (int k = 0; k < n; k++) {
            to[j + k] = from[i + k];
        }
        return 1;
    }

    long element(int s, int i) {
        return in(s, 8) && shelves[s] instanceof long[] row && in(i, row.length) ? row[i] : 0;
    }

    int show(int s, int w) {
        if (!in(s, 8) || w != NONE && !in(w, strategies.size())) return no(-1);
        shelves[s] = w == NONE ? null : (Object) w;
        return w == NONE ? 0 : 1;
    }

    int holds(int s) {
        if (!in(s, 8) || shelves[s] == null) return NONE;
        return shelves[s] instanceof Integer w ? w : 100 + sorts[s];
    }

    int says(int s, int as) {
        if (!in(s, 8) || !in(as, 5)) return no(-1);
        if (shelves[s] instanceof long[]) return no(-2);
        if (shelves[s] == null) return no(-3);
        int w = (Integer) shelves[s];
        Strategy it = strategies.get(w);
        int k = it.kind;
        if (as == 0) return k;
        if (as == 1 && k < 3) return k == 0 ? it.a : k == 1 ? 99 : 98;
        if (as == 2 && k > 4) return it.a;
        if (as == 3 && (k == 3 || k == 4)) return 100 * it.a + it.b;
        if (as == 4 && k > 5 && k < 13) return (int) Math.min(1000, weight(w));
        return no(-2);
    }

    private long weight(int w) {
        Strategy it = strategies.get(w);
        if (it.kind < 3) return 1;
        return 1 + weight(it.a) + (it.kind < 5 ? weight(it.b) : 0);
    }

    // ---- reading: a text is right if it is what the written form of some term begins with

    private int at;
    private int signs;
    private int[] letters;

    private static final class Fault extends RuntimeException {
        Fault() {
            super(null, null, false, false);
        }
    }

    private Term readTerm() {
        if (at >= letters.length || signs >= 40) throw new Fault();
        int c = letters[at];
        int arity = c >= 'a' && c <= 'd' || c >= 'u' && c <= 'z' ? 0 : c >= 'e' && c <= 'h' ? 1 : c >= 'i' && c <= 'l' ? 2 : -1;
        if (arity < 0) throw new Fault();
        at++;
        signs++;
        List<Term> args = new ArrayList<>();
        for (int k = 0; k < arity; k++) {
            expect(k == 0 ? '(' : ',');
            args.add(readTerm());
        }
        if (arity > 0) expect(')');
        return new Term((char) c, args);
    }

    private void expect(int c) {
        if (at >= letters.length || letters[at] != c) throw new Fault();
        at++;
    }

    int term(int s) {
        if (rowNo(s) != 0) return no(rowNo(s));
        long[] row = (long[]) shelves[s];
        letters = new int[row.length];
        for (int i = 0; i < row.length; i++) {
            letters[i] = (int) row[i];
        }
        at = 0;
        signs = 0;
        Term read;
        try {
            read = readTerm();
            if (at < letters.length) throw new Fault();
        } catch (Fault e) {
            fault = at;
            return no(-6);
        }
        fault = NONE;
        return add(read);
    }

    private int add(Term t) {
        if (terms.size() == 24) return no(-7);
        terms.add(t);
        return terms.size() - 1;
    }

    int fault() {
        return fault;
    }

    int drop() {
        if (terms.isEmpty()) return no(-6);
        terms.remove(terms.size() - 1);
        return terms.size();
    }

    int commute(int sign, boolean is) {
        if (sign < 'i' || sign > 'l') return no(-1);
        boolean was = commutes[sign - 'i'];
        commutes[sign - 'i'] = is;
        return was ? 1 : 0;
    }

    private boolean isTerm(int t) {
        return in(t, terms.size());
    }

    int node(int t, int i) {
        if (!isTerm(t)) return no(-1);
        if (!in(i, terms.get(t).size())) return no(-5);
        return terms.get(t).nodes().get(i).sign;
    }

    int termOf(int t, int what) {
        if (!isTerm(t)) return no(-1);
        Term it = terms.get(t);
        return switch (what) {
            case 0 -> it.size();
            case 1 -> it.depth();
            case 2 -> it.variables();
            case 3 -> redexes(it) == 0 ? 1 : 0;
            default -> no(-5);
        };
    }

    long path(int t, int i) {
        if (!isTerm(t)) return no(-1);
        if (!in(i, terms.get(t).size())) return no(-5);
        return terms.get(t).paths(0).get(i);
    }

    private boolean commutes(Term t) {
        return t.args.size() == 2 && commutes[t.sign - 'i'];
    }

    /** The form in which the arguments of operators that commute are sorted by their texts. */
    private String sorted(Term t) {
        List<String> parts = new ArrayList<>();
        for (Term a : t.args) {
            parts.add(sorted(a));
        }
        if (commutes(t)) parts.sort(null);
        return t.sign + String.join("", parts);
    }

    int same(int t, int u) {
        if (!isTerm(t) || !isTerm(u)) return no(-1);
        if (terms.get(t).equals(terms.get(u))) return 0;
        return sorted(terms.get(t)).equals(sorted(terms.get(u))) ? 1 : 2;
    }

    int rule(int left, int right) {
        if (!isTerm(left) || !isTerm(right)) return no(-1);
        Term l = terms.get(left);
        Term r = terms.get(right);
        if (l.isVariable() || (r.variables() & ~l.variables()) != 0) return no(-6);
        if (rules.size() == 12) return no(-7);
        rules.add(new Rule(l, r));
        return rules.size() - 1;
    }

    int ruleOf(int r, boolean isRight, int i) {
        if (!in(r, rules.size())) return no(-1);
        Term it = isRight ? rules.get(r).right : rules.get(r).left;
        if (!in(i, it.size())) return no(-5);
        return it.nodes().get(i).sign;
    }

    // ---- matches: the list of all ways, in their order

    private List<Map<Character, Term>> ways(Term p, Term t, Map<Character, Term> so, boolean turn) {
        List<Map<Character, Term>> all = new ArrayList<>();
        if (p.isVariable()) {
            if (!so.containsKey(p.sign)) {
                Map<Character, Term> more = new HashMap<>(so);
                more.put(p.sign, t);
                all.add(more);
            } else if (so.get(p.sign).equals(t)) {
                all.add(so);
            }
            return all;
        }
        if (p.sign != t.sign) return all;
        if (p.args.isEmpty()) {
            all.add(so);
        } else if (p.args.size() == 1) {
            all.addAll(ways(p.args.get(0), t.args.get(0), so, turn));
        } else {
            for (int turned = 0; turned < (turn && commutes(p) ? 2 : 1); turned++) {
                for (Map<Character, Term> m : ways(p.args.get(0), t.args.get(turned), so, turn)) {
                    all.addAll(ways(p.args.get(1), t.args.get(1 - turned), m, turn));
                }
            }
        }
        return all;
    }

    private Map<Character, Term> match(Term p, Term t) {
        int n = 0;
        for (Term x : p.nodes()) {
            if (commutes(x)) n++;
        }
        List<Map<Character, Term>> all = ways(p, t, new HashMap<>(), n <= 6);
        return all.isEmpty() ? null : all.get(0);
    }

    int bound(int p, int t, int v, int i) {
        if (!isTerm(p) || !isTerm(t)) return no(-1);
        Map<Character, Term> m = match(terms.get(p), terms.get(t));
        if (m == null) return no(-6);
        Term it = in(v, 256) ? m.get((char) v) : null;
        if (it == null || !in(i, it.size())) return no(-5);
        return it.nodes().get(i).sign;
    }

    private List<Integer> fitting(Rule r, Term t) {
        List<Integer> all = new ArrayList<>();
        List<Term> nodes = t.nodes();
        for (int i = 0; i < nodes.size(); i++) {
            if (match(r.left, nodes.get(i)) != null) all.add(i);
        }
        return all;
    }

    int fits(int r, int t, int i) {
        if (!in(r, rules.size()) || !isTerm(t)) {
            no(-1);
            return -11;
        }
        List<Integer> all = fitting(rules.get(r), terms.get(t));
        if (i == NONE) return all.size();
        return in(i, all.size()) ? all.get(i) : NONE;
    }

    private long redexes(Term t) {
        long bits = 0;
        for (Rule r : rules) {
            for (int i : fitting(r, t)) {
                bits |= 1L << i;
            }
        }
        return bits;
    }

    long redexes(int t) {
        return isTerm(t) ? redexes(terms.get(t)) : no(-1);
    }

    int rewrite(int r, int t, int i) {
        if (!in(r, rules.size()) || !isTerm(t)) return no(-1);
        Term it = terms.get(t);
        if (!in(i, it.size())) return no(-5);
        Map<Character, Term> m = match(rules.get(r).left, it.nodes().get(i));
        if (m == null) return no(-6);
        Term made = it.with(i, rules.get(r).right.put(m));
        return made.size() > 40 ? no(-7) : add(made);
    }

    // ---- strategies and runs

    int strategy(int kind, int a, int b) {
        int n = strategies.size();
        if (!in(kind, 14)) return no(-1);
        if (kind == 0 && !in(a, rules.size())) return no(-1);
        if (kind > 2 && !in(a, n) || (kind == 3 || kind == 4) && !in(b, n)) return no(-1);
        if (n == 24) return no(-7);
        strategies.add(new Strategy(kind, a, b));
        return n;
    }

    int strategyOf(int w, int what) {
        if (!in(w, strategies.size()) || !in(what, 3)) return no(-5);
        Strategy it = strategies.get(w);
        if (what == 0) return it.kind;
        if (what == 1) return it.kind == 1 || it.kind == 2 ? NONE : it.a;
        return it.kind == 3 || it.kind == 4 ? it.b : NONE;
    }

    private int rewritings;
    private int begun;
    private List<Step> steps;
    private List<Strategy> running;

    /** What a strategy makes of a term; null: it fails. */
    private Term go(int w, Term t, long path) {
        if (begun == 600) throw new Ends();
        begun++;
        int mark = steps.size();
        Term made = goOn(running.get(w), w, t, path);
        if (made == null) steps = new ArrayList<>(steps.subList(0, mark));
        return made;
    }

    private Term goOn(Strategy s, int w, Term t, long path) {
        switch (s.kind) {
            case 0: {
                Map<Character, Term> m = match(rules.get(s.a).left, t);
                if (m == null) return null;
                if (rewritings == 40) throw new Ends();
                rewritings++;
                steps.add(new Step(s.a, path));
                return checked(rules.get(s.a).right.put(m));
            }
            case 1:
                return t;
            case 2:
                return null;
            case 3: {
                Term x = go(s.a, t, path);
                return x == null ? null : go(s.b, x, path);
            }
            case 4: {
                Term x = go(s.a, t, path);
                return x != null ? x : go(s.b, t, path);
            }
            case 5: {
                Term x = go(s.a, t, path);
                return x != null ? x : t;
            }
            case 6:
                return all(s.a, t, path);
            case 7:
                return first(s.a, t, path);
            case 8: {
                List<Term> made = new ArrayList<>();
                boolean some = false;
                for (int k = 0; k < t.args.size(); k++) {
                    Term x = go(s.a, t.args.get(k), 3 * path + k + 1);
                    some |= x != null;
                    made.add(x != null ? x : t.args.get(k));
                }
                return some ? checked(new Term(t.sign, made)) : null;
            }
            case 9: {
                Term x = all(w, t, path);
                return x == null ? null : go(s.a, x, path);
            }
            case 10: {
                Term x = go(s.a, t, path);
                return x == null ? null : all(w, x, path);
            }
            case 11: {
                Term x = go(s.a, t, path);
                return x != null ? x : first(w, t, path);
            }
            case 12: {
                Term whole = all(w, t, path);
                Term x = go(s.a, whole, path);
                return x == null ? whole : go(w, x, path);
            }
            default: {
                Term x = t;
                while (true) {
                    Term y = go(s.a, x, path);
                    if (y == null) return x;
                    x = y;
                }
            }
        }
    }

    private Term all(int w, Term t, long path) {
        List<Term> made = new ArrayList<>();
        for (int k = 0; k < t.args.size(); k++) {
            Term x = go(w, t.args.get(k), 3 * path + k + 1);
            if (x == null) return null;
            made.add(x);
        }
        return checked(new Term(t.sign, made));
    }

    private Term first(int w, Term t, long path) {
        for (int k = 0; k < t.args.size(); k++) {
            Term x = go(w, t.args.get(k), 3 * path + k + 1);
            if (x != null) {
                List<Term> made = new ArrayList<>(t.args);
                made.set(k, x);
                return checked(new Term(t.sign, made));
            }
        }
        return null;
    }

    private static Term checked(Term t) {
        if (t.size() > 40) throw new Ends();
        return t;
    }

    private Term runIt(List<Strategy> of, int w, Term t, boolean afresh) {
        if (afresh) {
            begun = 0;
            rewritings = 0;
        }
        steps = new ArrayList<>();
        running = of;
        return go(w, t, 0);
    }

    int run(int w, int t) {
        if (!in(w, strategies.size()) || !isTerm(t)) return no(-1);
        try {
            Term made = runIt(strategies, w, terms.get(t), true);
            if (made == null) return no(-6);
            if (terms.size() == 24) return no(-7);
            trace = steps;
            return add(made);
        } catch (Ends e) {
            return no(-7);
        }
    }

    int trial(int w, int t, int what) {
        if (!in(w, strategies.size()) || !isTerm(t)) return no(-1);
        if (!in(what, 3)) return no(-5);
        try {
            Term made = runIt(strategies, w, terms.get(t), true);
            if (made == null) return what == 0 ? 1 : 0;
            return what == 0 ? 0 : what == 1 ? made.size() : steps.size();
        } catch (Ends e) {
            return what == 0 ? 2 : 0;
        }
    }

    int trace(int i) {
        return in(i, trace.size()) ? trace.get(i).rule : NONE;
    }

    long tracePath(int i) {
        return in(i, trace.size()) ? trace.get(i).path : NONE;
    }

    int replay(int t, int n) {
        if (!isTerm(t)) return no(-1);
        if (n < 0 || n > trace.size()) return no(-5);
        Term it = terms.get(t);
        for (Step step : trace.subList(0, n)) {
            int node = it.paths(0).indexOf(step.path);
            if (node < 0 || step.rule >= rules.size()) return no(-6);
            Map<Character, Term> m = match(rules.get(step.rule).left, it.nodes().get(node));
            if (m == null) return no(-6);
            it = it.with(node, rules.get(step.rule).right.put(m));
            if (it.size() > 40) return no(-7);
        }
        return add(it);
    }

    // ---- unifying: what is put in for variables, one after the other; the second term's variables are U to Z

    private static Term asOther(Term t) {
        List<Term> made = new ArrayList<>();
        for (Term a : t.args) {
            made.add(asOther(a));
        }
        return new Term(t.isVariable() ? Character.toUpperCase(t.sign) : t.sign, made);
    }

    /** What makes both the same, put in all through; null: nothing does. */
    private static Map<Character, Term> unifier(Term a, Term b) {
        Map<Character, Term> in = new LinkedHashMap<>();
        List<Term[]> todo = new ArrayList<>();
        todo.add(new Term[] {a, b});
        while (!todo.isEmpty()) {
            Term[] two = todo.remove(todo.size() - 1);
            Term x = two[0].put(in);
            Term y = two[1].put(in);
            if (x.equals(y)) continue;
            if (!x.isVariable() && y.isVariable()) {
                Term z = x;
                x = y;
                y = z;
            }
            if (x.isVariable()) {
                if (y.nodes().contains(x)) return null;
                Map<Character, Term> one = Map.of(x.sign, y);
                in.replaceAll((v, t) -> t.put(one));
                in.put(x.sign, y);
            } else {
                if (x.sign != y.sign) return null;
                for (int k = 0; k < x.args.size(); k++) {
                    todo.add(new Term[] {x.args.get(k), y.args.get(k)});
                }
            }
        }
        return in;
    }

    private static Map<Character, Term> names(Term t) {
        Map<Character, Term> in = new HashMap<>();
        for (Term n : t.nodes()) {
            if (n.isVariable() && !in.containsKey(n.sign)) {
                in.put(n.sign, new Term((char) ('u' + in.size()), List.of()));
            }
        }
        return in;
    }

    private static boolean hasMany(Term t) {
        return Integer.bitCount(t.variables()) > 3;
    }

    int unify(int t, int u) {
        if (!isTerm(t) || !isTerm(u)) return no(-1);
        Term a = terms.get(t);
        if (hasMany(a) || hasMany(terms.get(u))) return no(-5);
        Map<Character, Term> in = unifier(a, asOther(terms.get(u)));
        if (in == null) return no(-6);
        Term made = a.put(in);
        made = made.put(names(made));
        return made.size() > 40 ? no(-7) : add(made);
    }

    private List<Overlap> overlapsOf(int r, int q) {
        List<Overlap> all = new ArrayList<>();
        Rule one = rules.get(r);
        Term left = asOther(rules.get(q).left);
        Term right = asOther(rules.get(q).right);
        if (hasMany(one.left) || hasMany(rules.get(q).left)) return all;
        List<Term> nodes = one.left.nodes();
        for (int i = r == q ? 1 : 0; i < nodes.size(); i++) {
            if (nodes.get(i).isVariable()) continue;
            Map<Character, Term> in = unifier(nodes.get(i), left);
            if (in == null) continue;
            Term peak = one.left.put(in);
            Term wayOne = one.right.put(in);
            Term wayTwo = one.left.with(i, right).put(in);
            if (peak.size() > 40 || wayOne.size() > 40 || wayTwo.size() > 40) continue;
            Map<Character, Term> names = names(peak);
            all.add(new Overlap(peak.put(names), wayOne.put(names), wayTwo.put(names)));
        }
        return all;
    }

    private boolean areRules(int r, int q) {
        return in(r, rules.size()) && in(q, rules.size());
    }

    int overlaps(int r, int q) {
        return areRules(r, q) ? overlapsOf(r, q).size() : no(-1);
    }

    int overlap(int r, int q, int i, int which) {
        if (!areRules(r, q)) return no(-1);
        List<Overlap> all = overlapsOf(r, q);
        if (!in(i, all.size()) || !in(which, 3)) return no(-5);
        Overlap it = all.get(i);
        return add(which == 0 ? it.peak : which == 1 ? it.one : it.two);
    }

    int meets(int r, int q, int i) {
        if (!areRules(r, q)) return no(-1);
        List<Overlap> all = overlapsOf(r, q);
        if (!in(i, all.size())) return no(-5);
        List<Strategy> own = new ArrayList<>();
        own.add(new Strategy(0, 0, 0));
        int choice = 0;
        for (int k = 1; k < rules.size(); k++) {
            own.add(new Strategy(0, k, 0));
            own.add(new Strategy(4, choice, own.size() - 1));
            choice = own.size() - 1;
        }
        own.add(new Strategy(12, choice, 0));
        try {
            Term x = runIt(own, own.size() - 1, all.get(i).one, true);
            Term y = runIt(own, own.size() - 1, all.get(i).two, true);
            return x.equals(y) ? 1 : 0;
        } catch (Ends e) {
            return 2;
        }
    }

    int judge(int s, int w, int n) {
        int wrong = judgeNo(s, w, n);
        if (wrong != 0) {
            no(wrong);
            return wrong - 10;
        }
        begun = 0;
        rewritings = 0;
        for (int k = 0; k < n; k++) {
            try {
                Term made = runIt(strategies, w, terms.get((int) element(s, 2 * k)), false);
                if (made == null || !made.equals(terms.get((int) element(s, 2 * k + 1)))) return k;
            } catch (Ends e) {
                return k;
            }
        }
        return NONE;
    }

    private int judgeNo(int s, int w, int n) {
        if (!in(s, 8) || !in(w, strategies.size())) return -1;
        if (rowNo(s) != 0) return rowNo(s);
        if (n < 0) return -4;
        if (2L * n > ((long[]) shelves[s]).length) return -5;
        for (int i = 0; i < 2 * n; i++) {
            if (!isTerm((int) element(s, i))) return -6;
        }
        return n > 80 ? -6 : 0;
    }

    private int draw(int n) {
        seed = seed * 1103515245 + 12345;
        return (seed >>> 16) % n;
    }

    int days(int n) {
        if (rules.isEmpty() || terms.isEmpty()) return no(-5);
        if (n < 1 || n > 40) return no(-6);
        int count = 0;
        for (int day = 0; day < n; day++) {
            Rule r = rules.get(draw(rules.size()));
            int t = draw(terms.size());
            List<Integer> all = fitting(r, terms.get(t));
            if (all.isEmpty()) continue;
            Term it = terms.get(t);
            Term made = it.with(all.get(0), r.right.put(match(r.left, it.nodes().get(all.get(0)))));
            if (made.size() > 40) continue;
            terms.set(t, made);
            count++;
        }
        return count;
    }

    int seed(int v) {
        int was = seed;
        seed = v;
        return was;
    }

    int image() {
        image = new Image(List.copyOf(terms), List.copyOf(rules), List.copyOf(strategies), commutes.clone(), seed);
        return terms.size();
    }

    int restore() {
        if (image == null) return no(-6);
        terms = new ArrayList<>(image.terms);
        rules = new ArrayList<>(image.rules);
        strategies = new ArrayList<>(image.strategies);
        commutes = image.commutes.clone();
        seed = image.seed;
        for (int s = 0; s < 8; s++) {
            if (shelves[s] instanceof Integer w && w >= strategies.size()) shelves[s] = null;
        }
        return terms.size();
    }

    int status(int what) {
        switch (what) {
            case 0:
                return terms.size();
            case 1:
                return rules.size();
            case 2:
                return strategies.size();
            case 3: {
                int bits = 0;
                for (int k = 0; k < 4; k++) {
                    bits |= commutes[k] ? 1 << k : 0;
                }
                return bits;
            }
            case 4: {
                int n = 0;
                for (Term t : terms) {
                    n += t.size();
                }
                return n;
            }
            case 5:
                return seed;
            case 6:
                return trace.size();
            default:
                return what >= 11 && what <= 17 ? refusals[what - 10] : NONE;
        }
    }

    /** The text of a term, to tell it by in a report. */
    String textOf(int t) {
        if (!isTerm(t)) return "none";
        return text(terms.get(t));
    }

    private static String text(Term t) {
        if (t.args.isEmpty()) return "" + t.sign;
        List<String> parts = new ArrayList<>();
        for (Term a : t.args) {
            parts.add(text(a));
        }
        return t.sign + "(" + String.join(",", parts) + ")";
    }
}
