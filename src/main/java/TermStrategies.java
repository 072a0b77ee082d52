import java.util.Arrays;

/** Terms, rules, strategies and their runs, as ../shared/DOC.md tells them. */
public final class TermStrategies {
    public static final int NONE = -1;

    private static final int FINE = 0;
    private static final int NOBODY = -1;
    private static final int OTHER = -2;
    private static final int NOTHING = -3;
    private static final int BELOW = -4;
    private static final int BEYOND = -5;
    private static final int WRONG = -6;
    private static final int ROOM = -7;

    private static final int MOST_NODES = 40;
    private static final int MOST_TERMS = 24;
    private static final int MOST_RULES = 12;
    private static final int MOST_STRATEGIES = 24;
    private static final int MOST_REWRITINGS = 40;
    private static final int MOST_BEGUN = 600;
    private static final int MOST_TURNING = 6;
    private static final int MOST_VARIABLES_BESIDE = 3;
    private static final int MOST_TWOS = 80;
    private static final int MOST_DAYS = 40;
    private static final int VARIABLES = 6;
    private static final int SHELVES = 8;
    private static final int MOST_ELEMENTS = 160;
    private static final int SORTS = 4;
    private static final int ROWS = 100;

    private static final int RULE = 0;
    private static final int KEEP = 1;
    private static final int FAIL = 2;
    private static final int THEN = 3;
    private static final int ELSE = 4;
    private static final int TRY = 5;
    private static final int ALL = 6;
    private static final int ONE = 7;
    private static final int SOME = 8;
    private static final int UP = 9;
    private static final int DOWN = 10;
    private static final int ONCE = 11;
    private static final int INNERMOST = 12;
    private static final int REPEAT = 13;
    private static final int SAID_OF_KEEP = 99;
    private static final int SAID_OF_FAIL = 98;
    private static final int MOST_WEIGHT = 1000;

    private static final int FAILED = -1;
    private static final int ENDED = -2;

    // The cells of the signs: first what is kept (and taken into the image), then room to work in.
    private static final int LEFTS = MOST_TERMS * MOST_NODES;
    private static final int RIGHTS = LEFTS + MOST_RULES * MOST_NODES;
    private static final int KEPT = RIGHTS + MOST_RULES * MOST_NODES;
    private static final int WORK = KEPT;
    private static final int HAND = WORK + MOST_NODES;
    private static final int PEAK = HAND + MOST_NODES;
    private static final int WAY_OF_R = PEAK + MOST_NODES;
    private static final int WAY_OF_Q = WAY_OF_R + MOST_NODES;
    private static final int ARENA = WAY_OF_Q + MOST_NODES;
    // A run keeps no more terms that it wrote than it has rewritten, and writes one at a time.
    private static final int ALL_CELLS = ARENA + (MOST_REWRITINGS + 1) * MOST_NODES;

    private final State state = new State(ALL_CELLS);
    private final State taken = new State(KEPT);
    private final Signs signs = state.signs;
    private final Shelves shelves = new Shelves();
    private final Reader reader = new Reader(shelves, signs);
    private final Layout layout = new Layout(signs);
    private final Exchange exchange = new Exchange(signs);
    private final Matching matching = new Matching(signs);
    private final Runner runner = new Runner(state, matching);
    private final Unifier unifier = new Unifier(signs);
    private final Trail trail = new Trail();
    private final int[] refusals = new int[-ROOM + 1];
    private boolean hasImage = false;
    private int latestFault = NONE;

    public TermStrategies() {
    }

    // ---- shelves and rows

    public int row(int s, int sort, int n) {
        if (!Shelves.isThere(s)) {
            return refuse(NOBODY);
        }
        if (n < 0) {
            return refuse(BELOW);
        }
        if (sort < 0 || sort >= SORTS) {
            return refuse(WRONG);
        }
        if (n > MOST_ELEMENTS) {
            return refuse(ROOM);
        }
        shelves.lay(s, sort, n);
        return 1;
    }

    public int set(int s, int i, long v) {
        int wrong = shelves.rowRefusal(s);
        if (wrong != FINE) {
            return refuse(wrong);
        }
        if (i < 0 || i >= shelves.sizeOf(s)) {
            return refuse(BEYOND);
        }
        shelves.change(s, i, v);
        return 1;
    }

    public int copy(int p, int q, int i, int j, int n) {
        int wrong = copyRefusal(p, q);
        if (wrong != FINE) {
            return refuse(wrong);
        }
        if (n < 0) {
            return refuse(BELOW);
        }
        if (i < 0 || j < 0 || (long) i + n > shelves.sizeOf(p) || (long) j + n > shelves.sizeOf(q)) {
            return refuse(BEYOND);
        }
        shelves.move(p, q, i, j, n);
        return 1;
    }

    private int copyRefusal(int p, int q) {
        if (!Shelves.isThere(p) || !Shelves.isThere(q)) {
            return NOBODY;
        }
        if (shelves.holdsStrategy(p) || shelves.holdsStrategy(q)) {
            return OTHER;
        }
        if (shelves.heldBy(p) == NONE || shelves.heldBy(q) == NONE) {
            return NOTHING;
        }
        return shelves.heldBy(p) == shelves.heldBy(q) ? FINE : OTHER;
    }

    public long element(int s, int i) {
        return shelves.elementAt(s, i);
    }

    public int show(int s, int w) {
        if (!Shelves.isThere(s) || w != NONE && !state.hasStrategy(w)) {
            return refuse(NOBODY);
        }
        shelves.hold(s, w);
        return w == NONE ? 0 : 1;
    }

    public int holds(int s) {
        return shelves.heldBy(s);
    }

    public int says(int s, int as) {
        if (!Shelves.isThere(s) || as < 0 || as > 4) {
            return refuse(NOBODY);
        }
        if (shelves.holdsRow(s)) {
            return refuse(OTHER);
        }
        int w = shelves.heldBy(s);
        if (w == NONE) {
            return refuse(NOTHING);
        }
        int kind = state.kindOf(w);
        if (!isOfSort(kind, as)) {
            return refuse(OTHER);
        }
        switch (as) {
            case 0:
                return kind;
            case 1:
                return kind == RULE ? state.firstOf(w) : kind == KEEP ? SAID_OF_KEEP : SAID_OF_FAIL;
            case 2:
                return state.firstOf(w);
            case 3:
                return 100 * state.firstOf(w) + state.secondOf(w);
            default:
                return state.weightOf(w);
        }
    }

    private static boolean isOfSort(int kind, int as) {
        switch (as) {
            case 0:
                return true;
            case 1:
                return kind <= FAIL;
            case 2:
                return kind >= TRY;
            case 3:
                return isOverTwo(kind);
            default:
                return kind >= ALL && kind <= INNERMOST;
        }
    }

    // ---- terms

    public int term(int s) {
        int wrong = shelves.rowRefusal(s);
        if (wrong != FINE) {
            return refuse(wrong);
        }
        latestFault = reader.readInto(s, WORK);
        if (latestFault != NONE) {
            return refuse(WRONG);
        }
        return newTerm(WORK);
    }

    public int fault() {
        return latestFault;
    }

    public int drop() {
        if (state.terms == 0) {
            return refuse(WRONG);
        }
        state.terms--;
        return state.terms;
    }

    public int commute(int sign, boolean is) {
        if (arity(sign) != 2) {
            return refuse(NOBODY);
        }
        int bit = 1 << (sign - 'i');
        int was = (state.commuting & bit) != 0 ? 1 : 0;
        state.commuting = is ? state.commuting | bit : state.commuting & ~bit;
        return was;
    }

    public int node(int t, int i) {
        if (!state.hasTerm(t)) {
            return refuse(NOBODY);
        }
        if (!hasNode(termPlace(t), i)) {
            return refuse(BEYOND);
        }
        return signs.at(termPlace(t) + i);
    }

    public int termOf(int t, int what) {
        if (!state.hasTerm(t)) {
            return refuse(NOBODY);
        }
        int place = termPlace(t);
        switch (what) {
            case 0:
                return signs.sizeAt(place);
            case 1:
                layout.lay(place);
                return layout.deepest();
            case 2:
                return signs.variablesAt(place);
            case 3:
                return redexesAt(place) == 0 ? 1 : 0;
            default:
                return refuse(BEYOND);
        }
    }

    public long path(int t, int i) {
        if (!state.hasTerm(t)) {
            return refuse(NOBODY);
        }
        if (!hasNode(termPlace(t), i)) {
            return refuse(BEYOND);
        }
        layout.lay(termPlace(t));
        return layout.pathAt(i);
    }

    public int same(int t, int u) {
        if (!state.hasTerm(t) || !state.hasTerm(u)) {
            return refuse(NOBODY);
        }
        if (signs.alike(termPlace(t), termPlace(u))) {
            return 0;
        }
        return exchange.makesAlike(termPlace(t), termPlace(u), state.commuting) ? 1 : 2;
    }

    // ---- rules

    public int rule(int left, int right) {
        if (!state.hasTerm(left) || !state.hasTerm(right)) {
            return refuse(NOBODY);
        }
        int unknown = signs.variablesAt(termPlace(right)) & ~signs.variablesAt(termPlace(left));
        if (isVariable(signs.at(termPlace(left))) || unknown != 0) {
            return refuse(WRONG);
        }
        if (state.rules >= MOST_RULES) {
            return refuse(ROOM);
        }
        return state.addRule(termPlace(left), termPlace(right));
    }

    public int ruleOf(int r, boolean isRight, int i) {
        if (!state.hasRule(r)) {
            return refuse(NOBODY);
        }
        int place = isRight ? rightPlace(r) : leftPlace(r);
        if (!hasNode(place, i)) {
            return refuse(BEYOND);
        }
        return signs.at(place + i);
    }

    public int bound(int p, int t, int v, int i) {
        if (!state.hasTerm(p) || !state.hasTerm(t)) {
            return refuse(NOBODY);
        }
        if (!matching.matches(termPlace(p), termPlace(t), state.commuting)) {
            return refuse(WRONG);
        }
        int what = matching.boundTo(v);
        if (what == NONE || !hasNode(what, i)) {
            return refuse(BEYOND);
        }
        return signs.at(what + i);
    }

    public int fits(int r, int t, int i) {
        if (!state.hasRule(r) || !state.hasTerm(t)) {
            return refuse(NOBODY) - 10;
        }
        return i == NONE ? countFits(r, termPlace(t)) : fittingNode(r, termPlace(t), i);
    }

    private int countFits(int r, int place) {
        int size = signs.sizeAt(place);
        int found = 0;
        for (int node = 0; node < size; node++) {
            if (matching.matches(leftPlace(r), place + node, state.commuting)) {
                found++;
            }
        }
        return found;
    }

    private int fittingNode(int r, int place, int i) {
        int size = signs.sizeAt(place);
        int found = 0;
        for (int node = 0; node < size; node++) {
            if (matching.matches(leftPlace(r), place + node, state.commuting)) {
                if (found == i) {
                    return node;
                }
                found++;
            }
        }
        return NONE;
    }

    public long redexes(int t) {
        if (!state.hasTerm(t)) {
            return refuse(NOBODY);
        }
        return redexesAt(termPlace(t));
    }

    private long redexesAt(int place) {
        int size = signs.sizeAt(place);
        long found = 0;
        for (int node = 0; node < size; node++) {
            if (someRuleFits(place + node)) {
                found |= 1L << node;
            }
        }
        return found;
    }

    private boolean someRuleFits(int place) {
        for (int r = 0; r < state.rules; r++) {
            if (matching.matches(leftPlace(r), place, state.commuting)) {
                return true;
            }
        }
        return false;
    }

    public int rewrite(int r, int t, int i) {
        if (!state.hasRule(r) || !state.hasTerm(t)) {
            return refuse(NOBODY);
        }
        if (!hasNode(termPlace(t), i)) {
            return refuse(BEYOND);
        }
        int wrong = rewriteToWork(r, termPlace(t), i);
        if (wrong != FINE) {
            return refuse(wrong);
        }
        return newTerm(WORK);
    }

    /** Lays what a rule makes of a term, at one of its nodes, into WORK: FINE, WRONG (it doesn't fit) or ROOM. */
    private int rewriteToWork(int r, int place, int node) {
        int there = place + node;
        if (!matching.matches(leftPlace(r), there, state.commuting)) {
            return WRONG;
        }
        int size = signs.sizeAt(place) - signs.sizeAt(there) + matching.sizeOf(rightPlace(r));
        if (size > MOST_NODES) {
            return ROOM;
        }
        int to = signs.appendCells(place, there, WORK);
        to = matching.append(rightPlace(r), to);
        signs.appendCells(signs.end(there), signs.end(place), to);
        return FINE;
    }

    // ---- strategies and runs

    public int strategy(int kind, int a, int b) {
        if (!isStrategyOver(kind, a, b)) {
            return refuse(NOBODY);
        }
        if (state.strategies >= MOST_STRATEGIES) {
            return refuse(ROOM);
        }
        return state.addStrategy(kind, a, b);
    }

    private boolean isStrategyOver(int kind, int a, int b) {
        if (kind < RULE || kind > REPEAT) {
            return false;
        }
        if (kind == RULE) {
            return state.hasRule(a);
        }
        if (kind <= FAIL) {
            return true;
        }
        return state.hasStrategy(a) && (!isOverTwo(kind) || state.hasStrategy(b));
    }

    public int strategyOf(int w, int what) {
        if (!state.hasStrategy(w)) {
            return refuse(BEYOND);
        }
        switch (what) {
            case 0:
                return state.kindOf(w);
            case 1:
                return state.firstOf(w);
            case 2:
                return state.secondOf(w);
            default:
                return refuse(BEYOND);
        }
    }

    public int run(int w, int t) {
        if (!state.hasStrategy(w) || !state.hasTerm(t)) {
            return refuse(NOBODY);
        }
        runner.forgetCounts();
        int made = runner.go(w, termPlace(t));
        if (made == FAILED) {
            return refuse(WRONG);
        }
        if (made == ENDED || state.terms >= MOST_TERMS) {
            return refuse(ROOM);
        }
        trail.takeFrom(runner.trail);
        return state.addTerm(made);
    }

    public int trial(int w, int t, int what) {
        if (!state.hasStrategy(w) || !state.hasTerm(t)) {
            return refuse(NOBODY);
        }
        if (what < 0 || what > 2) {
            return refuse(BEYOND);
        }
        runner.forgetCounts();
        int made = runner.go(w, termPlace(t));
        if (what == 0) {
            return made == FAILED ? 1 : made == ENDED ? 2 : 0;
        }
        if (made < 0) {
            return 0;
        }
        return what == 1 ? signs.sizeAt(made) : runner.trail.size;
    }

    public int trace(int i) {
        return trail.ruleAt(i);
    }

    public long tracePath(int i) {
        return trail.pathAt(i);
    }

    public int replay(int t, int n) {
        if (!state.hasTerm(t)) {
            return refuse(NOBODY);
        }
        if (n < 0 || n > trail.size) {
            return refuse(BEYOND);
        }
        signs.append(termPlace(t), HAND);
        for (int k = 0; k < n; k++) {
            int wrong = rewriteInHand(trail.ruleAt(k), trail.pathAt(k));
            if (wrong != FINE) {
                return refuse(wrong);
            }
        }
        return newTerm(HAND);
    }

    private int rewriteInHand(int r, long way) {
        layout.lay(HAND);
        int node = layout.nodeAt(way);
        if (!state.hasRule(r) || node == NONE) {
            return WRONG;
        }
        int wrong = rewriteToWork(r, HAND, node);
        if (wrong == FINE) {
            signs.append(WORK, HAND);
        }
        return wrong;
    }

    // ---- rules beside rules

    public int unify(int t, int u) {
        if (!state.hasTerm(t) || !state.hasTerm(u)) {
            return refuse(NOBODY);
        }
        int first = termPlace(t);
        int second = termPlace(u);
        if (hasTooManyVariables(first) || hasTooManyVariables(second)) {
            return refuse(BEYOND);
        }
        if (!unifier.unifies(first, second, 0)) {
            return refuse(WRONG);
        }
        unifier.writeTo(PEAK);
        unifier.write(first, signs.end(first), 0);
        return unifier.over ? refuse(ROOM) : newTerm(PEAK);
    }

    private boolean hasTooManyVariables(int place) {
        return Integer.bitCount(signs.variablesAt(place)) > MOST_VARIABLES_BESIDE;
    }

    public int overlaps(int r, int q) {
        if (!state.hasRule(r) || !state.hasRule(q)) {
            return refuse(NOBODY);
        }
        return seekOverlap(r, q, NONE);
    }

    public int overlap(int r, int q, int i, int which) {
        if (!state.hasRule(r) || !state.hasRule(q)) {
            return refuse(NOBODY);
        }
        if (i < 0 || which < 0 || which > 2 || seekOverlap(r, q, i) <= i) {
            return refuse(BEYOND);
        }
        return newTerm(which == 0 ? PEAK : which == 1 ? WAY_OF_R : WAY_OF_Q);
    }

    public int meets(int r, int q, int i) {
        if (!state.hasRule(r) || !state.hasRule(q)) {
            return refuse(NOBODY);
        }
        if (i < 0 || seekOverlap(r, q, i) <= i) {
            return refuse(BEYOND);
        }
        int w = state.buildInnermost();
        runner.forgetCounts();
        int made = runner.go(w, WAY_OF_R);
        if (made == ENDED) {
            return 2;
        }
        // The next run writes over what this one made.
        signs.append(made, HAND);
        runner.forgetCounts();
        made = runner.go(w, WAY_OF_Q);
        if (made == ENDED) {
            return 2;
        }
        return signs.alike(HAND, made) ? 1 : 0;
    }

    /** Lays overlaps out, up to the i-th (NONE: all of them), and tells how many it came to. */
    private int seekOverlap(int r, int q, int i) {
        if (hasTooManyVariables(leftPlace(r)) || hasTooManyVariables(leftPlace(q))) {
            return 0;
        }
        int size = signs.sizeAt(leftPlace(r));
        int found = 0;
        for (int node = r == q ? 1 : 0; node < size; node++) {
            if (layOverlap(r, q, node)) {
                found++;
                if (found - 1 == i) {
                    return found;
                }
            }
        }
        return found;
    }

    private boolean layOverlap(int r, int q, int node) {
        int left = leftPlace(r);
        int there = left + node;
        if (isVariable(signs.at(there)) || !unifier.unifies(left, leftPlace(q), node)) {
            return false;
        }
        // The peak is written first: by it the variables of all three are named.
        unifier.writeTo(PEAK);
        unifier.write(left, signs.end(left), 0);
        unifier.writeTo(WAY_OF_R);
        unifier.write(rightPlace(r), signs.end(rightPlace(r)), 0);
        unifier.writeTo(WAY_OF_Q);
        unifier.write(left, there, 0);
        unifier.write(rightPlace(q), signs.end(rightPlace(q)), VARIABLES);
        unifier.write(signs.end(there), signs.end(left), 0);
        return !unifier.over;
    }

    // ---- judging, days, the image, counts

    public int judge(int s, int w, int n) {
        int wrong = judgeRefusal(s, w, n);
        if (wrong != FINE) {
            return refuse(wrong) - 10;
        }
        runner.forgetCounts();
        for (int k = 0; k < n; k++) {
            int made = runner.go(w, termPlace(shelves.intAt(s, 2 * k)));
            if (made < 0 || !signs.alike(made, termPlace(shelves.intAt(s, 2 * k + 1)))) {
                return k;
            }
        }
        return NONE;
    }

    private int judgeRefusal(int s, int w, int n) {
        if (!Shelves.isThere(s) || !state.hasStrategy(w)) {
            return NOBODY;
        }
        int wrong = shelves.rowRefusal(s);
        if (wrong != FINE) {
            return wrong;
        }
        if (n < 0) {
            return BELOW;
        }
        if (2L * n > shelves.sizeOf(s)) {
            return BEYOND;
        }
        if (n > MOST_TWOS) {
            return WRONG;
        }
        for (int i = 0; i < 2 * n; i++) {
            if (!state.hasTerm(shelves.intAt(s, i))) {
                return WRONG;
            }
        }
        return FINE;
    }

    public int days(int n) {
        if (state.rules == 0 || state.terms == 0) {
            return refuse(BEYOND);
        }
        if (n < 1 || n > MOST_DAYS) {
            return refuse(WRONG);
        }
        int rewritten = 0;
        for (int day = 0; day < n; day++) {
            int r = state.draw(state.rules);
            int t = state.draw(state.terms);
            if (rewriteAtLeast(r, termPlace(t))) {
                rewritten++;
            }
        }
        return rewritten;
    }

    private boolean rewriteAtLeast(int r, int place) {
        int node = fittingNode(r, place, 0);
        if (node == NONE || rewriteToWork(r, place, node) != FINE) {
            return false;
        }
        signs.append(WORK, place);
        return true;
    }

    public int seed(int v) {
        int was = state.seed;
        state.seed = v;
        return was;
    }

    public int image() {
        taken.takeFrom(state);
        hasImage = true;
        return state.terms;
    }

    public int restore() {
        if (!hasImage) {
            return refuse(WRONG);
        }
        state.takeFrom(taken);
        shelves.forgetStrategiesFrom(state.strategies);
        return state.terms;
    }

    public int status(int what) {
        switch (what) {
            case 0:
                return state.terms;
            case 1:
                return state.rules;
            case 2:
                return state.strategies;
            case 3:
                return state.commuting;
            case 4:
                return nodesOfAll();
            case 5:
                return state.seed;
            case 6:
                return trail.size;
            default:
                return what > 10 && what <= 10 - ROOM ? get(refusals, what - 10) : NONE;
        }
    }

    private int nodesOfAll() {
        int nodes = 0;
        for (int t = 0; t < state.terms; t++) {
            nodes += signs.sizeAt(termPlace(t));
        }
        return nodes;
    }

    // ---- what many of these need

    private int refuse(int number) {
        put(refusals, -number, get(refusals, -number) + 1);
        return number;
    }

    private int newTerm(int place) {
        if (state.terms >= MOST_TERMS) {
            return refuse(ROOM);
        }
        return state.addTerm(place);
    }

    private boolean hasNode(int place, int i) {
        return i >= 0 && i < signs.sizeAt(place);
    }

    private static int termPlace(int t) {
        return t * MOST_NODES;
    }

    private static int leftPlace(int r) {
        return LEFTS + r * MOST_NODES;
    }

    private static int rightPlace(int r) {
        return RIGHTS + r * MOST_NODES;
    }

    private static boolean isVariable(int sign) {
        return sign >= 'u' && sign <= 'z';
    }

    /** How many arguments a sign has; NONE: it is no sign. */
    private static int arity(int sign) {
        if (sign >= 'i' && sign <= 'l') {
            return 2;
        }
        if (sign >= 'e' && sign <= 'h') {
            return 1;
        }
        return sign >= 'a' && sign <= 'd' || sign >= 'u' && sign <= 'z' ? 0 : NONE;
    }

    private static boolean isOverTwo(int kind) {
        return kind == THEN || kind == ELSE;
    }

    private static int get(int[] cells, int i) {
        return i < 0 || i >= cells.length ? 0 : cells[i];
    }

    private static void put(int[] cells, int i, int v) {
        if (i >= 0 && i < cells.length) {
            cells[i] = v;
        }
    }

    private static long getLong(long[] cells, int i) {
        return i < 0 || i >= cells.length ? 0 : cells[i];
    }

    private static void putLong(long[] cells, int i, long v) {
        if (i >= 0 && i < cells.length) {
            cells[i] = v;
        }
    }

    /**
     * The signs of all terms, in the order of their nodes. A term is told by the place of its first sign: where it
     * ends follows from the signs, and each argument of it stands within as a term of its own.
     */
    private static final class Signs {
        private final int[] cells;

        Signs(int size) {
            cells = new int[Math.max(size, 0)];
        }

        int at(int place) {
            return place < 0 || place >= cells.length ? 0 : cells[place];
        }

        void write(int place, int sign) {
            if (place >= 0 && place < cells.length) {
                cells[place] = sign;
            }
        }

        /** The place behind the term's last sign. */
        int end(int place) {
            int i = place < 0 ? 0 : place;
            for (int open = 1; open > 0 && i < cells.length; i++) {
                int sign = cells[i];
                if (sign >= 'i' && sign <= 'l') {
                    open++;
                } else if (sign < 'e' || sign > 'h') {
                    open--;
                }
            }
            return i;
        }

        int sizeAt(int place) {
            return end(place) - place;
        }

        boolean alike(int place, int other) {
            int open = 1;
            for (int k = 0; k < MOST_NODES && open > 0; k++) {
                int sign = at(place + k);
                if (sign != at(other + k)) {
                    return false;
                }
                open += arity(sign) - 1;
            }
            return true;
        }

        int variablesAt(int place) {
            int end = end(place);
            int bits = 0;
            for (int i = place; i < end; i++) {
                if (isVariable(at(i))) {
                    bits |= 1 << (at(i) - 'u');
                }
            }
            return bits;
        }

        /** Writes the term again at another place and tells the place behind it. */
        int append(int place, int to) {
            return appendCells(place, end(place), to);
        }

        int appendCells(int from, int end, int to) {
            for (int i = from; i < end; i++) {
                write(to + i - from, at(i));
            }
            return to + end - from;
        }

        void takeFrom(Signs other, int size) {
            int n = Math.min(size, Math.min(cells.length, other.cells.length));
            for (int i = 0; i < n; i++) {
                cells[i] = other.cells[i];
            }
        }
    }

    /** All that the image takes: terms, rules, strategies, operators that commute, the seed. */
    private static final class State {
        // Behind the strategies that were asked for stand those that buildInnermost makes for one call.
        private static final int OWN_RULES = MOST_STRATEGIES;
        private static final int OWN_CHOICES = OWN_RULES + MOST_RULES;
        private static final int ALL_STRATEGIES = OWN_CHOICES + MOST_RULES;

        private final Signs signs;
        private final int[] kinds = new int[ALL_STRATEGIES];
        private final int[] firsts = new int[ALL_STRATEGIES];
        private final int[] seconds = new int[ALL_STRATEGIES];
        private final int[] weights = new int[ALL_STRATEGIES];
        private int terms = 0;
        private int rules = 0;
        private int strategies = 0;
        private int commuting = 0;
        private int seed = 1;

        State(int cells) {
            signs = new Signs(cells);
        }

        boolean hasTerm(int t) {
            return t >= 0 && t < terms;
        }

        boolean hasRule(int r) {
            return r >= 0 && r < rules;
        }

        boolean hasStrategy(int w) {
            return w >= 0 && w < strategies;
        }

        int addTerm(int place) {
            signs.append(place, termPlace(terms));
            terms++;
            return terms - 1;
        }

        int addRule(int left, int right) {
            signs.append(left, leftPlace(rules));
            signs.append(right, rightPlace(rules));
            rules++;
            return rules - 1;
        }

        int addStrategy(int kind, int a, int b) {
            writeStrategy(strategies, kind, a, b);
            strategies++;
            return strategies - 1;
        }

        private void writeStrategy(int w, int kind, int a, int b) {
            int first = kind == KEEP || kind == FAIL ? NONE : a;
            int second = isOverTwo(kind) ? b : NONE;
            int weight = 1 + (kind > FAIL ? weightOf(first) : 0) + (isOverTwo(kind) ? weightOf(second) : 0);
            put(kinds, w, kind);
            put(firsts, w, first);
            put(seconds, w, second);
            put(weights, w, Math.min(weight, MOST_WEIGHT));
        }

        /** INNERMOST of a choice among all rules, the first one first; it is not one of those that were asked for. */
        int buildInnermost() {
            int choice = OWN_RULES;
            writeStrategy(OWN_RULES, RULE, 0, NONE);
            for (int r = 1; r < rules; r++) {
                writeStrategy(OWN_RULES + r, RULE, r, NONE);
                writeStrategy(OWN_CHOICES + r, ELSE, choice, OWN_RULES + r);
                choice = OWN_CHOICES + r;
            }
            writeStrategy(OWN_CHOICES, INNERMOST, choice, NONE);
            return OWN_CHOICES;
        }

        int kindOf(int w) {
            return get(kinds, w);
        }

        int firstOf(int w) {
            return get(firsts, w);
        }

        int secondOf(int w) {
            return get(seconds, w);
        }

        int weightOf(int w) {
            return get(weights, w);
        }

        int draw(int n) {
            seed = seed * 1103515245 + 12345;
            return n < 1 ? 0 : (seed >>> 16) % n;
        }

        void takeFrom(State other) {
            signs.takeFrom(other.signs, KEPT);
            System.arraycopy(other.kinds, 0, kinds, 0, MOST_STRATEGIES);
            System.arraycopy(other.firsts, 0, firsts, 0, MOST_STRATEGIES);
            System.arraycopy(other.seconds, 0, seconds, 0, MOST_STRATEGIES);
            System.arraycopy(other.weights, 0, weights, 0, MOST_STRATEGIES);
            terms = other.terms;
            rules = other.rules;
            strategies = other.strategies;
            commuting = other.commuting;
            seed = other.seed;
        }
    }

    /** What the shelves hold: NONE, a strategy's number, or ROWS and the sort of a row. */
    private static final class Shelves {
        private final int[] held = new int[SHELVES];
        private final int[] sizes = new int[SHELVES];
        private final long[] elements = new long[SHELVES * MOST_ELEMENTS];

        Shelves() {
            Arrays.fill(held, NONE);
        }

        static boolean isThere(int s) {
            return s >= 0 && s < SHELVES;
        }

        int heldBy(int s) {
            return isThere(s) ? get(held, s) : NONE;
        }

        boolean holdsRow(int s) {
            return heldBy(s) >= ROWS;
        }

        boolean holdsStrategy(int s) {
            return heldBy(s) >= 0 && heldBy(s) < ROWS;
        }

        int rowRefusal(int s) {
            if (!isThere(s)) {
                return NOBODY;
            }
            if (holdsStrategy(s)) {
                return OTHER;
            }
            return holdsRow(s) ? FINE : NOTHING;
        }

        int sizeOf(int s) {
            return holdsRow(s) ? get(sizes, s) : 0;
        }

        void lay(int s, int sort, int n) {
            put(held, s, ROWS + sort);
            put(sizes, s, n);
            for (int i = 0; i < n; i++) {
                putLong(elements, s * MOST_ELEMENTS + i, 0L);
            }
        }

        void hold(int s, int w) {
            put(held, s, w);
        }

        long elementAt(int s, int i) {
            return i < 0 || i >= sizeOf(s) ? 0L : getLong(elements, s * MOST_ELEMENTS + i);
        }

        int intAt(int s, int i) {
            return (int) elementAt(s, i);
        }

        void change(int s, int i, long v) {
            putLong(elements, s * MOST_ELEMENTS + i, lowestBits(heldBy(s) - ROWS, v));
        }

        private static long lowestBits(int sort, long v) {
            switch (sort) {
                case 0:
                    return (byte) v;
                case 1:
                    return (short) v;
                case 2:
                    return (int) v;
                default:
                    return v;
            }
        }

        /** Elements that lie over one another come as they were ahead, so the way round matters. */
        void move(int p, int q, int i, int j, int n) {
            int from = p * MOST_ELEMENTS + i;
            int to = q * MOST_ELEMENTS + j;
            if (from < to) {
                for (int k = n - 1; k >= 0; k--) {
                    putLong(elements, to + k, getLong(elements, from + k));
                }
            } else {
                for (int k = 0; k < n; k++) {
                    putLong(elements, to + k, getLong(elements, from + k));
                }
            }
        }

        void forgetStrategiesFrom(int n) {
            for (int s = 0; s < SHELVES; s++) {
                if (holdsStrategy(s) && heldBy(s) >= n) {
                    put(held, s, NONE);
                }
            }
        }
    }

    /** Reads a term from a row of letters. */
    private static final class Reader {
        private static final int SIGN = 0;
        private static final int OPENING = 1;
        private static final int BEHIND = 2;

        private final Shelves shelves;
        private final Signs signs;
        private final int[] awaited = new int[MOST_NODES]; // of each open operator: its arguments, from this one on
        private int open = 0;
        private int read = 0;

        Reader(Shelves shelves, Signs signs) {
            this.shelves = shelves;
            this.signs = signs;
        }

        /** The fault of the row in shelf s, or NONE: then its signs stand from a place on. */
        int readInto(int s, int to) {
            int size = shelves.sizeOf(s);
            int wanted = SIGN;
            open = 0;
            read = 0;
            for (int i = 0; i < size; i++) {
                wanted = next(wanted, shelves.intAt(s, i), to);
                if (wanted == NONE) {
                    return i;
                }
            }
            return wanted == BEHIND && open == 0 ? NONE : size;
        }

        /** What is wanted behind an element; NONE: the element can't stand. */
        private int next(int wanted, int letter, int to) {
            if (wanted == SIGN) {
                return nextToSign(letter, to);
            }
            if (wanted == OPENING) {
                return letter == '(' ? SIGN : NONE;
            }
            if (open == 0) {
                return NONE;
            }
            if (get(awaited, open - 1) == 2) {
                put(awaited, open - 1, 1);
                return letter == ',' ? SIGN : NONE;
            }
            open--;
            return letter == ')' ? BEHIND : NONE;
        }

        private int nextToSign(int letter, int to) {
            int arity = arity(letter);
            if (arity == NONE || read >= MOST_NODES) {
                return NONE;
            }
            signs.write(to + read, letter);
            read++;
            if (arity == 0) {
                return BEHIND;
            }
            put(awaited, open, arity);
            open++;
            return OPENING;
        }
    }

    /** How deep the nodes of one term are, and the paths to them. */
    private static final class Layout {
        private final Signs signs;
        private final int[] levels = new int[MOST_NODES];
        private final long[] paths = new long[MOST_NODES];
        private int size = 0;

        Layout(Signs signs) {
            this.signs = signs;
        }

        void lay(int place) {
            size = signs.sizeAt(place);
            put(levels, 0, 1);
            putLong(paths, 0, 0L);
            for (int node = 0; node < size; node++) {
                int arity = arity(signs.at(place + node));
                if (arity >= 1) {
                    layArgument(node, 1, node + 1);
                }
                if (arity == 2) {
                    layArgument(node, 2, signs.end(place + node + 1) - place);
                }
            }
        }

        private void layArgument(int node, int which, int argument) {
            put(levels, argument, get(levels, node) + 1);
            putLong(paths, argument, 3 * getLong(paths, node) + which);
        }

        int deepest() {
            int deep = 0;
            for (int node = 0; node < size; node++) {
                deep = Math.max(deep, get(levels, node));
            }
            return deep;
        }

        long pathAt(int node) {
            return getLong(paths, node);
        }

        int nodeAt(long way) {
            for (int node = 0; node < size; node++) {
                if (getLong(paths, node) == way) {
                    return node;
                }
            }
            return NONE;
        }
    }

    /** Whether two terms can be made alike by changing places of arguments. */
    private static final class Exchange {
        private final Signs signs;
        private final long[] alike = new long[MOST_NODES]; // of each node of the one: bits, nodes of the other
        private int one = 0;
        private int two = 0;

        Exchange(Signs signs) {
            this.signs = signs;
        }

        boolean makesAlike(int first, int second, int commuting) {
            one = first;
            two = second;
            Arrays.fill(alike, 0L);
            int other = signs.sizeAt(second);
            // Arguments have higher numbers than what they are in: from the last ones on, they are known in time.
            for (int i = signs.sizeAt(first) - 1; i >= 0; i--) {
                for (int j = other - 1; j >= 0; j--) {
                    if (signs.at(first + i) == signs.at(second + j) && argumentsAlike(i, j, commuting)) {
                        putLong(alike, i, getLong(alike, i) | 1L << j);
                    }
                }
            }
            return isAlike(0, 0);
        }

        private boolean argumentsAlike(int i, int j, int commuting) {
            int sign = signs.at(one + i);
            int arity = arity(sign);
            if (arity < 2) {
                return arity < 1 || isAlike(i + 1, j + 1);
            }
            int i2 = signs.end(one + i + 1) - one;
            int j2 = signs.end(two + j + 1) - two;
            if (isAlike(i + 1, j + 1) && isAlike(i2, j2)) {
                return true;
            }
            return (commuting >> (sign - 'i') & 1) != 0 && isAlike(i + 1, j2) && isAlike(i2, j + 1);
        }

        private boolean isAlike(int i, int j) {
            return (getLong(alike, i) >> j & 1L) != 0;
        }
    }

    /** The match of a pattern and a term, and what it binds variables to. */
    private static final class Matching {
        private final Signs signs;
        private final int[] bindings = new int[VARIABLES];
        private final int[] facing = new int[MOST_NODES]; // of each node of the pattern: the place it is to match
        private int turning = 0; // operators that commute in this pattern: bits
        private int turns = 0; // how many nodes of the pattern bear one of these
        private int decided = 0; // how many of those the latest attempt came to

        Matching(Signs signs) {
            this.signs = signs;
        }

        /**
         * A way is a number with a bit for each node that may be turned, the first node's the highest: so the ways,
         * counted up, come in the order that is asked for. Those that begin like one that went wrong are left out.
         */
        boolean matches(int pattern, int place, int commuting) {
            int size = signs.sizeAt(pattern);
            countTurns(pattern, size, commuting);
            int ways = 1 << turns;
            int way = 0;
            for (int i = 0; i < ways && way < ways; i++) {
                if (attempt(pattern, size, place, way)) {
                    return true;
                }
                way += 1 << (turns - decided);
            }
            return false;
        }

        private void countTurns(int pattern, int size, int commuting) {
            turning = commuting;
            turns = 0;
            for (int k = 0; k < size; k++) {
                if (mayTurn(signs.at(pattern + k))) {
                    turns++;
                }
            }
            if (turns > MOST_TURNING) {
                turning = 0;
                turns = 0;
            }
        }

        private boolean mayTurn(int sign) {
            return sign >= 'i' && sign <= 'l' && (turning >> (sign - 'i') & 1) != 0;
        }

        private boolean attempt(int pattern, int size, int place, int way) {
            decided = 0;
            Arrays.fill(bindings, NONE);
            put(facing, 0, place);
            for (int k = 0; k < size; k++) {
                int sign = signs.at(pattern + k);
                int there = get(facing, k);
                if (isVariable(sign)) {
                    if (get(bindings, sign - 'u') == NONE) {
                        put(bindings, sign - 'u', there);
                    } else if (!signs.alike(get(bindings, sign - 'u'), there)) {
                        return false;
                    }
                } else if (signs.at(there) != sign) {
                    return false;
                } else {
                    faceArguments(pattern, k, there, way);
                }
            }
            return true;
        }

        private void faceArguments(int pattern, int k, int there, int way) {
            int sign = signs.at(pattern + k);
            int arity = arity(sign);
            if (arity == 1) {
                put(facing, k + 1, there + 1);
            }
            if (arity < 2) {
                return;
            }
            int second = signs.end(pattern + k + 1) - pattern;
            boolean turned = false;
            if (mayTurn(sign)) {
                decided++;
                turned = (way >> (turns - decided) & 1) != 0;
            }
            put(facing, k + 1, turned ? signs.end(there + 1) : there + 1);
            put(facing, second, turned ? there + 1 : signs.end(there + 1));
        }

        /** The place of what a variable (its sign) was bound to by the latest match; NONE: no such variable. */
        int boundTo(int sign) {
            return isVariable(sign) ? get(bindings, sign - 'u') : NONE;
        }

        /** How many nodes a term has when the variables are put in. */
        int sizeOf(int right) {
            int end = signs.end(right);
            int size = 0;
            for (int i = right; i < end; i++) {
                int what = boundTo(signs.at(i));
                size += what == NONE ? 1 : signs.sizeAt(what);
            }
            return size;
        }

        /** Writes a term with the variables put in, and tells the place behind it. */
        int append(int right, int to) {
            int end = signs.end(right);
            int behind = to;
            for (int i = right; i < end; i++) {
                int what = boundTo(signs.at(i));
                if (what == NONE) {
                    signs.write(behind, signs.at(i));
                    behind++;
                } else {
                    behind = signs.append(what, behind);
                }
            }
            return behind;
        }
    }

    /** Rewritings in their order, each the rule and the path. */
    private static final class Trail {
        private final int[] rules = new int[MOST_REWRITINGS];
        private final long[] paths = new long[MOST_REWRITINGS];
        private int size = 0;

        void add(int r, long way) {
            put(rules, size, r);
            putLong(paths, size, way);
            size = Math.min(size + 1, MOST_REWRITINGS);
        }

        void cut(int n) {
            size = n;
        }

        int ruleAt(int i) {
            return i >= 0 && i < size ? get(rules, i) : NONE;
        }

        long pathAt(int i) {
            return i >= 0 && i < size ? getLong(paths, i) : NONE;
        }

        void takeFrom(Trail other) {
            size = other.size;
            for (int i = 0; i < size; i++) {
                put(rules, i, other.ruleAt(i));
                putLong(paths, i, other.pathAt(i));
            }
        }
    }

    /**
     * Runs strategies. Each one that is begun has a frame, and the frames stand on one another in rows of their own:
     * one may stand on hundreds of others, which is more than calls within calls should.
     */
    private static final class Runner {
        // What the latest result is to a frame.
        private static final int FRESH = 0; // nothing: it has only been begun
        private static final int WHOLE = 1; // what s made of the whole
        private static final int FIRST = 2; // what became of the first argument
        private static final int SECOND = 3;
        private static final int WALKED = 4; // the whole with what became of its arguments
        private static final int LAST = 5; // what the frame itself makes
        // For each strategy that is begun: its start, one walk over arguments, the return to what began it.
        private static final int MOST_STEPS = 3 * MOST_BEGUN;

        private final State state;
        private final Signs signs;
        private final Matching matching;
        private final Trail trail = new Trail();
        private final int[] strategies = new int[MOST_BEGUN];
        private final int[] wholes = new int[MOST_BEGUN];
        private final long[] paths = new long[MOST_BEGUN];
        private final int[] stages = new int[MOST_BEGUN];
        private final int[] firsts = new int[MOST_BEGUN]; // what the first argument became; FAILED: it stays
        private final int[] marks = new int[MOST_BEGUN]; // how long the trail was ahead
        private final int[] bases = new int[MOST_BEGUN]; // the top ahead
        private int frames = 0;
        private int begun = 0;
        private int rewritings = 0;
        private int top = ARENA;
        private int result = FAILED;
        private boolean ended = false;

        Runner(State state, Matching matching) {
            this.state = state;
            this.signs = state.signs;
            this.matching = matching;
        }

        void forgetCounts() {
            begun = 0;
            rewritings = 0;
        }

        /** The place of what the strategy makes of the term, FAILED or ENDED. */
        int go(int w, int place) {
            frames = 0;
            top = ARENA;
            ended = false;
            trail.cut(0);
            ask(NONE, FRESH, w, place, 0L);
            for (int i = 0; i < MOST_STEPS && frames > 0 && !ended; i++) {
                int f = frames - 1;
                switch (get(stages, f)) {
                    case FRESH:
                        start(f);
                        break;
                    case WHOLE:
                        goOnFromWhole(f);
                        break;
                    case FIRST:
                        goOnFromFirst(f);
                        break;
                    case SECOND:
                        goOnFromSecond(f);
                        break;
                    case WALKED:
                        goOnFromWalk(f);
                        break;
                    default:
                        finish(f, result);
                }
            }
            return ended || frames > 0 ? ENDED : result;
        }

        /** Begins a strategy on a frame f, which then waits for it. */
        private void ask(int f, int stage, int w, int place, long way) {
            put(stages, f, stage);
            if (!countBegun()) {
                return;
            }
            put(strategies, frames, w);
            put(wholes, frames, place);
            putLong(paths, frames, way);
            put(stages, frames, FRESH);
            put(marks, frames, trail.size);
            put(bases, frames, top);
            frames++;
        }

        private boolean countBegun() {
            if (begun >= MOST_BEGUN) {
                ended = true;
                return false;
            }
            begun++;
            return true;
        }

        /** Lets a frame go on with a term: of all that it has written since, this alone stays, moved down. */
        private void goOnWith(int f, int place) {
            top = get(bases, f);
            put(wholes, f, place);
            if (place >= top) {
                put(wholes, f, top);
                top = signs.append(place, top);
            }
        }

        private void askWhole(int f, int stage, int w, int place) {
            goOnWith(f, place);
            ask(f, stage, w, get(wholes, f), getLong(paths, f));
        }

        private void finish(int f, int made) {
            if (made == FAILED) {
                trail.cut(get(marks, f));
            }
            goOnWith(f, made);
            result = get(wholes, f);
            frames = f;
        }

        private void start(int f) {
            int w = get(strategies, f);
            int place = get(wholes, f);
            switch (state.kindOf(w)) {
                case RULE:
                    finish(f, rewritten(state.firstOf(w), place, getLong(paths, f)));
                    break;
                case KEEP:
                    finish(f, place);
                    break;
                case FAIL:
                    finish(f, FAILED);
                    break;
                case ALL:
                case ONE:
                case SOME:
                case UP:
                case INNERMOST:
                    walk(f);
                    break;
                default:
                    askWhole(f, WHOLE, state.firstOf(w), place);
            }
        }

        private int rewritten(int r, int place, long way) {
            if (!matching.matches(leftPlace(r), place, state.commuting)) {
                return FAILED;
            }
            if (rewritings >= MOST_REWRITINGS || matching.sizeOf(rightPlace(r)) > MOST_NODES) {
                ended = true;
                return FAILED;
            }
            rewritings++;
            trail.add(r, way);
            int made = top;
            top = matching.append(rightPlace(r), top);
            return made;
        }

        private void goOnFromWhole(int f) {
            int w = get(strategies, f);
            int place = get(wholes, f);
            boolean failed = result == FAILED;
            switch (state.kindOf(w)) {
                case THEN:
                    if (failed) {
                        finish(f, FAILED);
                    } else {
                        askWhole(f, LAST, state.secondOf(w), result);
                    }
                    break;
                case ELSE:
                    if (failed) {
                        askWhole(f, LAST, state.secondOf(w), place);
                    } else {
                        finish(f, result);
                    }
                    break;
                case DOWN:
                    if (failed) {
                        finish(f, FAILED);
                    } else {
                        goOnWith(f, result);
                        walk(f);
                    }
                    break;
                case ONCE:
                    if (failed) {
                        walk(f);
                    } else {
                        finish(f, result);
                    }
                    break;
                case INNERMOST:
                    if (failed) {
                        finish(f, place);
                    } else if (countBegun()) {
                        goOnWith(f, result);
                        walk(f);
                    }
                    break;
                case REPEAT:
                    if (failed) {
                        finish(f, place);
                    } else {
                        askWhole(f, WHOLE, state.firstOf(w), result);
                    }
                    break;
                default: // TRY
                    finish(f, failed ? place : result);
            }
        }

        private void walk(int f) {
            int place = get(wholes, f);
            if (arity(signs.at(place)) > 0) {
                ask(f, FIRST, walkerOf(f), place + 1, 3 * getLong(paths, f) + 1);
            } else {
                endWalk(f, mayPassOver(f) ? FAILED : place);
            }
        }

        private void endWalk(int f, int made) {
            put(stages, f, WALKED);
            result = made;
        }

        /** The strategy that the arguments are given to. */
        private int walkerOf(int f) {
            int w = get(strategies, f);
            return state.kindOf(w) <= SOME ? state.firstOf(w) : w;
        }

        /** Whether an argument that fails is passed over, and it is for all of them to fail that this one does. */
        private boolean mayPassOver(int f) {
            int kind = state.kindOf(get(strategies, f));
            return kind == ONE || kind == SOME || kind == ONCE;
        }

        private void goOnFromFirst(int f) {
            int place = get(wholes, f);
            boolean failed = result == FAILED;
            if (failed && !mayPassOver(f)) {
                finish(f, FAILED);
                return;
            }
            put(firsts, f, result);
            boolean isEnough = !failed && state.kindOf(get(strategies, f)) != SOME && mayPassOver(f);
            if (arity(signs.at(place)) == 2 && !isEnough) {
                ask(f, SECOND, walkerOf(f), signs.end(place + 1), 3 * getLong(paths, f) + 2);
            } else {
                join(f, result, FAILED);
            }
        }

        private void goOnFromSecond(int f) {
            if (result == FAILED && !mayPassOver(f)) {
                finish(f, FAILED);
            } else {
                join(f, get(firsts, f), result);
            }
        }

        /** Makes a whole of what the arguments became; where that is FAILED, the argument stays. */
        private void join(int f, int first, int second) {
            if (first == FAILED && second == FAILED) {
                endWalk(f, FAILED);
                return;
            }
            int place = get(wholes, f);
            boolean hasTwo = arity(signs.at(place)) == 2;
            int one = first == FAILED ? place + 1 : first;
            int two = second == FAILED ? signs.end(place + 1) : second;
            if (one == place + 1 && (!hasTwo || two == signs.end(place + 1))) {
                endWalk(f, place);
                return;
            }
            if (1 + signs.sizeAt(one) + (hasTwo ? signs.sizeAt(two) : 0) > MOST_NODES) {
                ended = true;
                return;
            }
            int made = top;
            signs.write(top, signs.at(place));
            top = signs.append(one, top + 1);
            if (hasTwo) {
                top = signs.append(two, top);
            }
            endWalk(f, made);
        }

        private void goOnFromWalk(int f) {
            int w = get(strategies, f);
            if (state.kindOf(w) == UP) {
                askWhole(f, LAST, state.firstOf(w), result);
            } else if (state.kindOf(w) == INNERMOST) {
                askWhole(f, WHOLE, state.firstOf(w), result);
            } else {
                finish(f, result);
            }
        }
    }

    /**
     * Unifies two terms, the variables of the second taken for others, by classes of nodes that have to be the same.
     * The first term's nodes have spots 0 to 39, the second's 40 to 79. The ids that make up the classes: the
     * variables of the first (0 to 5) and of the second (6 to 11), each for all nodes that bear it; then the spots.
     */
    private static final class Unifier {
        private static final int SPOTS = 2 * MOST_NODES;
        private static final int BEHIND_VARIABLES = 2 * VARIABLES;
        private static final int IDS = BEHIND_VARIABLES + SPOTS;
        // Only two that become one class put others on, two at most, and there are fewer of those than ids.
        private static final int MOST_PAIRS = 2 * IDS;

        private final Signs signs;
        private final int[] text = new int[SPOTS];
        private final int[] seconds = new int[SPOTS]; // the spot of the second argument
        private final int[] parents = new int[IDS];
        private final int[] shapes = new int[IDS]; // of a class: a spot of it that is no variable, or NONE
        private final int[] settled = new int[IDS]; // of a class: 1 when it is known not to lie within itself
        private final int[] names = new int[IDS]; // of a class of variables: its new sign; 0: none yet
        private final int[] todo = new int[2 * MOST_PAIRS];
        private int waiting = 0;
        private int named = 0;
        private int out = 0;
        private int written = 0;
        private boolean over = false; // something that was written has too many nodes

        Unifier(Signs signs) {
            this.signs = signs;
        }

        /** Whether what is at a node of one term and the whole of another one unify. */
        boolean unifies(int one, int other, int node) {
            clear();
            load(one, 0);
            load(other, MOST_NODES);
            putOff(node, MOST_NODES);
            for (int i = 0; i < MOST_PAIRS && waiting > 0; i++) {
                waiting -= 2;
                if (!joins(get(todo, waiting), get(todo, waiting + 1))) {
                    return false;
                }
            }
            return isWithoutCircle();
        }

        private void clear() {
            waiting = 0;
            named = 0;
            over = false;
            Arrays.fill(text, 0);
            Arrays.fill(names, 0);
            Arrays.fill(settled, 0);
            for (int id = 0; id < IDS; id++) {
                put(parents, id, id);
                put(shapes, id, id < BEHIND_VARIABLES ? NONE : id - BEHIND_VARIABLES);
            }
        }

        private void load(int place, int spot) {
            int size = signs.sizeAt(place);
            for (int k = 0; k < size; k++) {
                int sign = signs.at(place + k);
                put(text, spot + k, sign);
                put(seconds, spot + k, arity(sign) == 2 ? spot + signs.end(place + k + 1) - place : NONE);
            }
        }

        private void putOff(int spot, int other) {
            put(todo, waiting, spot);
            put(todo, waiting + 1, other);
            waiting += 2;
        }

        private boolean joins(int spot, int other) {
            int one = root(idOf(spot));
            int two = root(idOf(other));
            if (one == two) {
                return true;
            }
            int shape = get(shapes, one);
            int shapeOfTwo = get(shapes, two);
            put(parents, one, two);
            if (shapeOfTwo == NONE) {
                put(shapes, two, shape);
            }
            if (shape == NONE || shapeOfTwo == NONE) {
                return true;
            }
            int sign = get(text, shape);
            if (sign != get(text, shapeOfTwo)) {
                return false;
            }
            if (arity(sign) >= 1) {
                putOff(shape + 1, shapeOfTwo + 1);
            }
            if (arity(sign) == 2) {
                putOff(get(seconds, shape), get(seconds, shapeOfTwo));
            }
            return true;
        }

        private int idOf(int spot) {
            int sign = get(text, spot);
            if (!isVariable(sign)) {
                return BEHIND_VARIABLES + spot;
            }
            return (spot < MOST_NODES ? 0 : VARIABLES) + sign - 'u';
        }

        private int root(int id) {
            int up = id;
            for (int i = 0; i < IDS && get(parents, up) != up; i++) {
                up = get(parents, up);
            }
            return up;
        }

        /** No class may lie within itself: each is settled once all that it is made of are, or it never is. */
        private boolean isWithoutCircle() {
            int open = SPOTS;
            int before = SPOTS + 1;
            for (int pass = 0; pass <= SPOTS && open > 0 && open < before; pass++) {
                before = open;
                open = 0;
                for (int spot = SPOTS - 1; spot >= 0; spot--) {
                    if (get(text, spot) != 0 && !settles(root(idOf(spot)))) {
                        open++;
                    }
                }
            }
            return open == 0;
        }

        private boolean settles(int known) {
            int shape = get(shapes, known);
            int arity = shape == NONE ? 0 : arity(get(text, shape));
            if (arity >= 1 && get(settled, root(idOf(shape + 1))) == 0) {
                return false;
            }
            if (arity == 2 && get(settled, root(idOf(get(seconds, shape)))) == 0) {
                return false;
            }
            put(settled, known, 1);
            return true;
        }

        void writeTo(int place) {
            out = place;
            written = 0;
        }

        /** Writes signs on, what is to be put in for the variables put in; theirs are the ids from a number on. */
        void write(int from, int end, int variables) {
            for (int i = from; i < end; i++) {
                int sign = signs.at(i);
                if (isVariable(sign)) {
                    writeClass(variables + sign - 'u');
                } else {
                    writeSign(sign);
                }
            }
        }

        private void writeSign(int sign) {
            if (written >= MOST_NODES) {
                over = true;
                return;
            }
            signs.write(out + written, sign);
            written++;
        }

        private void writeClass(int id) {
            put(todo, 0, id);
            int left = 1;
            // Each turn writes a sign, so that no more than these are of use.
            for (int i = 0; i <= MOST_NODES && left > 0 && !over; i++) {
                left--;
                int known = root(get(todo, left));
                int shape = get(shapes, known);
                int sign = shape == NONE ? nameOf(known) : get(text, shape);
                writeSign(sign);
                if (arity(sign) == 2) {
                    put(todo, left, idOf(get(seconds, shape)));
                    left++;
                }
                if (arity(sign) >= 1) {
                    put(todo, left, idOf(shape + 1));
                    left++;
                }
            }
        }

        private int nameOf(int known) {
            if (get(names, known) == 0) {
                put(names, known, 'u' + named);
                named++;
            }
            return get(names, known);
        }
    }
}
