/** Promises 23 to 29: strategies, runs, trials, the trace, replaying. */
public final class StrategiesTest {
    private static final int RULE = 0;
    private static final int KEEP = 1;
    private static final int FAIL = 2;
    private static final int THEN = 3;
    private static final int ELSE = 4;
    private static final int TRY = 5;
    private static final int ALL = 6;
    private static final int ONE = 7;
    private static final int SOME = 8;
    private static final int UP = 9;
    private static final int DOWN = 10;
    private static final int ONCE = 11;
    private static final int INNERMOST = 12;
    private static final int REPEAT = 13;

    public static void main(String[] args) {
        strategy();
        strategyOf();
        kinds();
        run();
        endsByRewritings();
        endsByBeginnings();
        endsByNodes();
        deepRuns();
        trial();
        trace();
        traceWraps();
        replay();
        Due.end();
    }

    private static void strategy() {
        Due due = new Due("23");
        TermStrategies it = due.it;
        due.is("strategy(0, 0, 0)", it.strategy(RULE, 0, 0), -1);
        for (int kind = 3; kind <= 13; kind++) {
            due.is("strategy(" + kind + ", 0, 0)", it.strategy(kind, 0, 0), -1);
        }
        due.is("strategy(-1, 0, 0)", it.strategy(-1, 0, 0), -1);
        due.is("strategy(14, 0, 0)", it.strategy(14, 0, 0), -1);
        due.rule("a", "b");
        due.is("strategy(0, 0, -9)", it.strategy(RULE, 0, -9), 0);
        due.is("strategy(1, -9, -9)", it.strategy(KEEP, -9, -9), 1);
        due.is("strategy(2, 99, 99)", it.strategy(FAIL, 99, 99), 2);
        due.is("strategy(3, 0, 3)", it.strategy(THEN, 0, 3), -1);
        due.is("strategy(4, 3, 0)", it.strategy(ELSE, 3, 0), -1);
        due.is("strategy(4, 0, -1)", it.strategy(ELSE, 0, -1), -1);
        due.is("strategy(5, -1, 0)", it.strategy(TRY, -1, 0), -1);
        due.is("strategy(0, 1, 0)", it.strategy(RULE, 1, 0), -1);
        due.is("strategy(0, -1, 0)", it.strategy(RULE, -1, 0), -1);
        due.is("strategy(3, 0, 2)", it.strategy(THEN, 0, 2), 3);
        for (int kind = 5; kind <= 13; kind++) {
            due.is("strategy(" + kind + ", 2, -1)", it.strategy(kind, 2, -1), kind - 1);
        }
        for (int w = 13; w < 24; w++) {
            due.is("strategy(5, " + (w - 1) + ", 0)", it.strategy(TRY, w - 1, 0), w);
        }
        due.is("strategy(1, 0, 0)", it.strategy(KEEP, 0, 0), -7);
        due.is("strategy(5, 24, 0)", it.strategy(TRY, 24, 0), -1);
        due.is("status(2)", it.status(2), 24);
        due.refused(21, 0, 0, 0, 0, 0, 1);
    }

    private static void strategyOf() {
        Due due = new Due("24");
        TermStrategies it = due.it;
        due.is("strategyOf(0, 0)", it.strategyOf(0, 0), -5);
        due.rule("a", "b");
        due.rule("a", "c");
        it.strategy(RULE, 1, 7);
        it.strategy(KEEP, 5, 6);
        it.strategy(FAIL, 5, 6);
        it.strategy(THEN, 1, 2);
        it.strategy(ELSE, 3, 0);
        for (int kind = 5; kind <= 13; kind++) {
            it.strategy(kind, 4, 3);
        }
        int[][] want = {{0, 1, -1}, {1, -1, -1}, {2, -1, -1}, {3, 1, 2}, {4, 3, 0}};
        for (int w = 0; w < 14; w++) {
            int[] of = w < 5 ? want[w] : new int[] {w, 4, -1};
            for (int what = 0; what < 3; what++) {
                due.is("strategyOf(" + w + ", " + what + ")", it.strategyOf(w, what), of[what]);
            }
        }
        due.is("strategyOf(14, 0)", it.strategyOf(14, 0), -5);
        due.is("strategyOf(-1, 0)", it.strategyOf(-1, 0), -5);
        due.is("strategyOf(0, 3)", it.strategyOf(0, 3), -5);
        due.is("strategyOf(0, -1)", it.strategyOf(0, -1), -5);
        due.refused(0, 0, 0, 0, 5, 0, 0);
    }

    // ---- each kind

    private static final String[] RULES = {"a", "b", "b", "c", "e(u)", "u", "i(u,v)", "j(v,u)", "c", "e(c)"};

    private static Due withRules(String promise) {
        Due due = new Due(promise);
        for (int r = 0; 2 * r < RULES.length; r++) {
            due.rule(RULES[2 * r], RULES[2 * r + 1]);
            due.it.strategy(RULE, r, 0);
        }
        return due;
    }

    /** Tells what the latest strategy makes of a text; what is due is a text, FAILS or ENDS, and the trace. */
    private static void makes(Due due, int w, String text, String want, long... steps) {
        TermStrategies it = due.it;
        int t = due.term(text);
        String call = "run of " + w + " with " + text;
        int made = it.run(w, t);
        if (want.equals("FAILS") || want.equals("ENDS")) {
            due.is(call, made, want.equals("ENDS") ? -7 : -6);
        } else {
            due.is(call, made, t + 1);
            due.reads(call, made, want);
            due.is(call + ", status(6)", it.status(6), steps.length / 2);
            for (int i = 0; i < steps.length / 2; i++) {
                due.is(call + ", trace(" + i + ")", it.trace(i), steps[2 * i]);
                due.is(call + ", tracePath(" + i + ")", it.tracePath(i), steps[2 * i + 1]);
            }
            it.drop();
        }
        it.drop();
    }

    private static void kinds() {
        Due due = withRules("25");
        TermStrategies it = due.it;
        int ab = 0;
        int bc = 1;
        int drop = 2;
        int turn = 3;
        makes(due, ab, "a", "b", 0, 0);
        makes(due, ab, "e(a)", "FAILS");
        makes(due, drop, "e(i(a,e(u)))", "i(a,e(u))", 2, 0);
        int keep = it.strategy(KEEP, 0, 0);
        int fail = it.strategy(FAIL, 0, 0);
        makes(due, keep, "i(a,b)", "i(a,b)");
        makes(due, fail, "i(a,b)", "FAILS");
        int then = it.strategy(THEN, ab, bc);
        makes(due, then, "a", "c", 0, 0, 1, 0);
        makes(due, then, "b", "FAILS");
        makes(due, it.strategy(THEN, ab, ab), "a", "FAILS");
        int either = it.strategy(ELSE, ab, bc);
        makes(due, either, "a", "b", 0, 0);
        makes(due, either, "b", "c", 1, 0);
        makes(due, either, "c", "FAILS");
        // What was rewritten by the one that failed is neither kept nor told.
        int thenFail = it.strategy(THEN, drop, fail);
        makes(due, it.strategy(ELSE, thenFail, drop), "e(e(a))", "e(a)", 2, 0);
        int tries = it.strategy(TRY, thenFail, 0);
        makes(due, tries, "e(e(a))", "e(e(a))");
        makes(due, it.strategy(TRY, then, 0), "a", "c", 0, 0, 1, 0);
        makes(due, it.strategy(TRY, then, 0), "b", "b");

        due = withRules("25");
        it = due.it;
        int all = it.strategy(ALL, either(it), 0);
        makes(due, all, "i(a,b)", "i(b,c)", 0, 1, 1, 2);
        makes(due, all, "e(a)", "e(b)", 0, 1);
        makes(due, all, "i(a,c)", "FAILS");
        makes(due, all, "i(c,a)", "FAILS");
        makes(due, all, "c", "c");
        int one = it.strategy(ONE, all - 1, 0);
        makes(due, one, "i(a,b)", "i(b,b)", 0, 1);
        makes(due, one, "i(c,b)", "i(c,c)", 1, 2);
        makes(due, one, "i(c,c)", "FAILS");
        makes(due, one, "e(b)", "e(c)", 1, 1);
        makes(due, one, "e(c)", "FAILS");
        makes(due, one, "a", "FAILS");
        int some = it.strategy(SOME, all - 1, 0);
        makes(due, some, "i(a,b)", "i(b,c)", 0, 1, 1, 2);
        makes(due, some, "i(c,b)", "i(c,c)", 1, 2);
        makes(due, some, "i(a,c)", "i(b,c)", 0, 1);
        makes(due, some, "i(c,c)", "FAILS");
        makes(due, some, "e(c)", "FAILS");
        makes(due, some, "a", "FAILS");

        due = withRules("25");
        it = due.it;
        int tried = it.strategy(TRY, either(it), 0);
        int up = it.strategy(UP, it.strategy(ELSE, drop, tried), 0);
        makes(due, up, "i(e(a),e(e(b)))", "i(b,c)", 0, 4, 2, 1, 1, 22, 2, 7, 2, 2);
        makes(due, it.strategy(UP, either(it), 0), "e(a)", "FAILS");
        makes(due, it.strategy(UP, either(it) - 3, 0), "a", "b", 0, 0);
        int down = it.strategy(DOWN, it.strategy(ELSE, drop, tried), 0);
        makes(due, down, "e(i(e(a),b))", "i(a,c)", 2, 0, 2, 1, 1, 2);
        makes(due, it.strategy(DOWN, drop, 0), "e(a)", "a", 2, 0);
        makes(due, it.strategy(DOWN, drop, 0), "e(i(a,b))", "FAILS");

        due = withRules("25");
        it = due.it;
        int once = it.strategy(ONCE, either(it), 0);
        makes(due, once, "b", "c", 1, 0);
        makes(due, once, "i(c,i(e(b),a))", "i(c,i(e(c),a))", 1, 22);
        makes(due, once, "i(c,i(e(c),d))", "FAILS");
        makes(due, it.strategy(ONCE, drop, 0), "i(a,e(e(a)))", "i(a,e(a))", 2, 2);
        int inner = it.strategy(INNERMOST, it.strategy(ELSE, either(it), drop), 0);
        makes(due, inner, "e(a)", "c", 0, 1, 1, 1, 2, 0);
        makes(due, inner, "i(e(b),d)", "i(c,d)", 1, 4, 2, 1);
        makes(due, inner, "d", "d");
        int innerTurn = it.strategy(INNERMOST, it.strategy(ELSE, turn, drop), 0);
        makes(due, innerTurn, "i(i(a,b),e(d))", "j(d,j(b,a))", 3, 1, 2, 2, 3, 0);
        int again = it.strategy(REPEAT, it.strategy(ELSE, drop, either(it)), 0);
        makes(due, again, "e(e(a))", "c", 2, 0, 2, 0, 0, 0, 1, 0);
        makes(due, again, "d", "d");
    }

    private static int either(TermStrategies it) {
        return it.strategy(ELSE, 0, 1);
    }

    private static void run() {
        Due due = withRules("25");
        TermStrategies it = due.it;
        due.is("run(0, 0)", it.run(0, 0), -1);
        due.term("a");
        due.is("run(5, 0)", it.run(5, 0), -1);
        due.is("run(-1, 0)", it.run(-1, 0), -1);
        due.is("run(0, -1)", it.run(0, -1), -1);
        due.is("run(0, 0)", it.run(0, 0), 1);
        due.is("run(1, 0)", it.run(1, 0), -6);
        due.is("status(6) behind one that failed", it.status(6), 1);
        for (int t = 2; t < 24; t++) {
            due.is("run(0, 0)", it.run(0, 0), t);
        }
        int keep = it.strategy(KEEP, 0, 0);
        int forever = it.strategy(REPEAT, keep, 0);
        due.is("run(1, 0), fails without room", it.run(1, 0), -6);
        due.is("run(keep, 0) without room", it.run(keep, 0), -7);
        due.is("run(forever, 0)", it.run(forever, 0), -7);
        due.is("status(6)", it.status(6), 1);
        due.is("trace(0)", it.trace(0), 0);
        it.drop();
        due.is("run(forever, 0)", it.run(forever, 0), -7);
        due.is("status(6) behind one that ended", it.status(6), 1);
        due.is("run(keep, 0)", it.run(keep, 0), 23);
        due.is("status(6)", it.status(6), 0);
        due.is("trace(0)", it.trace(0), -1);
        due.refused(4, 0, 0, 0, 0, 2, 3);
    }

    /** A strategy that does one so many times. */
    private static int times(TermStrategies it, int w, int n) {
        int made = -1;
        int power = w;
        for (int left = n; left > 0; left /= 2) {
            if (left % 2 == 1) {
                made = made < 0 ? power : it.strategy(THEN, made, power);
            }
            power = left > 1 ? it.strategy(THEN, power, power) : power;
        }
        return made;
    }

    private static void endsByRewritings() {
        Due due = new Due("25");
        TermStrategies it = due.it;
        due.rule("a", "a");
        int w = it.strategy(RULE, 0, 0);
        due.term("a");
        int forty = times(it, w, 40);
        due.is("40 rewritings", it.run(forty, 0), 1);
        due.is("status(6)", it.status(6), 40);
        due.is("trace(39)", it.trace(39), 0);
        due.is("41 rewritings", it.run(it.strategy(THEN, forty, w), 0), -7);
        int fail = it.strategy(FAIL, 0, 0);
        int lost = it.strategy(TRY, it.strategy(THEN, w, fail), 0);
        due.is("39 rewritings and one that is lost", it.run(it.strategy(THEN, lost, times(it, w, 39)), 0), 2);
        due.is("status(6)", it.status(6), 39);
        due.is("40 rewritings and one that is lost", it.run(it.strategy(THEN, lost, forty), 0), -7);
        due.is("40 rewritings, and one that fails", it.run(it.strategy(THEN, forty, fail), 0), -6);
        Due other = new Due("25");
        it = other.it;
        other.rule("a", "a");
        other.rule("b", "b");
        w = it.strategy(RULE, 0, 0);
        forty = times(it, w, 40);
        other.term("a");
        int b = it.strategy(RULE, 1, 0);
        other.is("a 41st that doesn't fit", it.run(it.strategy(THEN, forty, b), 0), -6);
        int tryMore = it.strategy(TRY, it.strategy(THEN, forty, w), 0);
        other.is("a 41st within TRY", it.run(tryMore, 0), -7);
        int elseMore = it.strategy(ELSE, it.strategy(THEN, forty, w), w);
        other.is("a 41st within ELSE", it.run(elseMore, 0), -7);
        other.is("a 41st by REPEAT", it.run(it.strategy(REPEAT, w, 0), 0), -7);
    }

    /** What one begins is told by what is the most that fits under 600. */
    private static void endsByBeginnings() {
        Due due = new Due("25");
        TermStrategies it = due.it;
        due.term("a");
        int keep = it.strategy(KEEP, 0, 0);
        // A tree of 2 * 256 - 1 begins 511 times; 511 + 1 + 63 + 1 + 15 + 1 + 7 + 1 are 600.
        int[] tree = new int[9];
        tree[0] = keep;
        for (int k = 1; k <= 8; k++) {
            tree[k] = it.strategy(THEN, tree[k - 1], tree[k - 1]);
        }
        int w = it.strategy(THEN, tree[8], tree[5]);
        w = it.strategy(THEN, w, tree[3]);
        w = it.strategy(THEN, w, tree[2]);
        due.is("599 beginnings", it.trial(w, 0, 0), 0);
        due.is("600 beginnings", it.trial(it.strategy(TRY, w, 0), 0, 0), 0);
        int more = it.strategy(THEN, w, keep);
        due.is("601 beginnings", it.trial(more, 0, 0), 2);
        int fail = it.strategy(FAIL, 0, 0);
        due.is("601 beginnings, the last one fails", it.trial(it.strategy(THEN, w, fail), 0, 0), 2);
        due.is("601 beginnings within ELSE", it.trial(it.strategy(ELSE, more, keep), 0, 0), 2);
        due.is("REPEAT of KEEP", it.trial(it.strategy(REPEAT, keep, 0), 0, 0), 2);
        due.is("INNERMOST of KEEP", it.trial(it.strategy(INNERMOST, keep, 0), 0, 0), 2);

        // Each kind with its beginnings on j(e(a),b): one more strategy fits ahead, or it doesn't.
        // UP, DOWN with KEEP: 4 and 4. ONCE that fails: 4 and 4. INNERMOST of FAIL: 4 and 4. ALL: 1 and 2.
        // REPEAT of FAIL: 2. TRY of FAIL: 2. SOME of FAIL, ONE of FAIL: 3.
        int[] kinds = {UP, DOWN, ONCE, INNERMOST, ALL, REPEAT, TRY, SOME, ONE};
        boolean[] ofKeep = {true, true, false, false, true, false, false, false, false};
        int[] begun = {8, 8, 8, 8, 3, 2, 2, 3, 3};
        for (int k = 0; k < kinds.length; k++) {
            beginnings(kinds[k], ofKeep[k] ? KEEP : FAIL, begun[k]);
        }
        // SOME and ONE of what doesn't fail: both arguments, and the first one alone.
        beginnings(SOME, KEEP, 3);
        beginnings(ONE, KEEP, 2);
        beginnings(ONCE, KEEP, 2);
        beginnings(UP, FAIL, 4);
        beginnings(DOWN, FAIL, 2);
        beginnings(ALL, FAIL, 2);
    }

    private static void beginnings(int kind, int leaf, int begun) {
        Due due = new Due("25");
        TermStrategies it = due.it;
        due.term("j(e(a),b)");
        int keep = it.strategy(KEEP, 0, 0);
        int[] tree = new int[9];
        tree[0] = keep;
        for (int k = 1; k <= 8; k++) {
            tree[k] = it.strategy(THEN, tree[k - 1], tree[k - 1]);
        }
        int of = leaf == KEEP ? keep : it.strategy(leaf, 0, 0);
        // TRY of what is tested begins once more, and so does THEN of a tree and that.
        int w = it.strategy(TRY, it.strategy(kind, of, 0), 0);
        int ahead = 600 - begun - 1;
        if (ahead % 2 == 1) {
            w = it.strategy(TRY, w, 0);
            ahead--;
        }
        for (int k = 8; k >= 0; k--) {
            if (ahead >= 2 << k) {
                w = it.strategy(THEN, tree[k], w);
                ahead -= 2 << k;
            }
        }
        String call = "600 beginnings with kind " + kind + " of " + leaf;
        due.is(call + ", as many as are wanted", ahead, 0);
        due.is(call, it.trial(w, 0, 0), 0);
        due.is(call + " and one more", it.trial(it.strategy(TRY, w, 0), 0, 0), 2);
    }

    private static void endsByNodes() {
        Due due = new Due("25");
        TermStrategies it = due.it;
        due.rule("e(u)", "i(u,u)");
        due.rule("b", Due.over(39, "f", "b"));
        due.rule("f(u)", "a");
        int twice = it.strategy(RULE, 0, 0);
        int big = it.strategy(RULE, 1, 0);
        int small = it.strategy(RULE, 2, 0);
        due.term(Due.over(19, "e", "a"));
        due.term(Due.over(20, "e", "a"));
        due.is("to 39 nodes", it.trial(twice, 0, 1), 39);
        due.is("to 41 nodes", it.trial(twice, 1, 0), 2);
        due.is("to 41 nodes within TRY", it.trial(it.strategy(TRY, twice, 0), 1, 0), 2);
        due.term("i(b,b)");
        due.is("ALL to 81 nodes", it.trial(it.strategy(ALL, big, 0), 2, 0), 2);
        due.is("ONE to 42 nodes", it.trial(it.strategy(ONE, big, 0), 2, 0), 2);
        int both = it.strategy(THEN, big, small);
        due.is("ALL, each to 40 nodes and back", it.trial(it.strategy(ALL, both, 0), 2, 1), 3);
        due.is("rewritten so", it.trial(it.strategy(ALL, both, 0), 2, 2), 4);
        due.term("e(b)");
        due.is("ALL to 41 nodes", it.trial(it.strategy(ALL, big, 0), 3, 0), 2);
        due.is("ONCE to 41 nodes", it.trial(it.strategy(ONCE, big, 0), 3, 0), 2);
        due.rule("c", Due.over(38, "f", "c"));
        int less = it.strategy(RULE, 3, 0);
        due.term("e(c)");
        due.is("ALL to 40 nodes", it.trial(it.strategy(ALL, less, 0), 4, 1), 40);
        due.is("UP to 40 nodes, and on", it.trial(it.strategy(UP, it.strategy(ELSE, less, twice), 0), 4, 0), 2);
    }

    /** Hundreds of strategies are begun within one another. */
    private static void deepRuns() {
        Due due = new Due("25");
        TermStrategies it = due.it;
        due.rule("a", Due.over(36, "e", "a"));
        due.term("a");
        int grow = it.strategy(RULE, 0, 0);
        int w = it.strategy(FAIL, 0, 0);
        for (int k = 0; k < 10; k++) {
            w = it.strategy(THEN, grow, it.strategy(UP, w, 0));
        }
        due.is("what fails 380 deep", it.run(w, 0), -6);
        due.is("what fails 380 deep, within TRY", it.run(it.strategy(TRY, w, 0), 0), 1);
        due.reads("what fails 380 deep, within TRY", 1, "a");
        due.is("status(6)", it.status(6), 0);
    }

    private static void trial() {
        Due due = withRules("26");
        TermStrategies it = due.it;
        due.term("e(i(a,b))");
        int once = it.strategy(ONCE, 0, 0);
        int again = it.strategy(REPEAT, once, 0);
        int endless = it.strategy(REPEAT, it.strategy(ONCE, 4, 0), 0);
        tried(due, 2, 0, 3, 1);
        tried(due, once, 0, 4, 1);
        tried(due, 0, 1, 0, 0);
        tried(due, it.strategy(KEEP, 0, 0), 0, 4, 0);
        tried(due, it.strategy(THEN, again, 2), 0, 3, 2);
        due.term("c");
        due.is("trial(endless, 1, 0)", it.trial(endless, 1, 0), 2);
        due.is("trial(endless, 1, 1)", it.trial(endless, 1, 1), 0);
        due.is("trial(endless, 1, 2)", it.trial(endless, 1, 2), 0);
        due.is("status(0)", it.status(0), 2);
        due.is("status(6)", it.status(6), 0);
        due.refused(0, 0, 0, 0, 0, 0, 0);
        due.is("trial(0, 0, 3)", it.trial(0, 0, 3), -5);
        due.is("trial(0, 0, -1)", it.trial(0, 0, -1), -5);
        due.is("trial(0, 2, 3)", it.trial(0, 2, 3), -1);
        due.is("trial(99, 0, 0)", it.trial(99, 0, 0), -1);
        due.is("trial(-1, 0, 0)", it.trial(-1, 0, 0), -1);
        due.refused(3, 0, 0, 0, 2, 0, 0);
        for (int t = 2; t < 24; t++) {
            due.term("a");
        }
        due.is("trial without room", it.trial(0, 2, 0), 0);
        due.is("run(0, 2) without room", it.run(0, 2), -7);
        due.is("status(6)", it.status(6), 0);
    }

    private static void tried(Due due, int w, int... want) {
        for (int what = 0; what < 3; what++) {
            due.is("trial(" + w + ", 0, " + what + ")", due.it.trial(w, 0, what), want[what]);
        }
    }

    private static void trace() {
        Due due = withRules("27, 28");
        TermStrategies it = due.it;
        due.is("trace(0)", it.trace(0), -1);
        due.is("tracePath(0)", it.tracePath(0), -1);
        due.term("i(e(b),k(d,a))");
        int w = it.strategy(SOME, it.strategy(ONCE, it.strategy(ELSE, 0, 1), 0), 0);
        due.is("run", it.run(w, 0), 1);
        due.is("trace(0)", it.trace(0), 1);
        due.is("tracePath(0)", it.tracePath(0), 4);
        due.is("trace(1)", it.trace(1), 0);
        due.is("tracePath(1)", it.tracePath(1), 8);
        for (int i : new int[] {2, -1, 40, Integer.MAX_VALUE, Integer.MIN_VALUE}) {
            due.is("trace(" + i + ")", it.trace(i), -1);
            due.is("tracePath(" + i + ")", it.tracePath(i), -1);
        }
        // Neither a trial nor a judgement is a run().
        it.trial(3, 0, 0);
        due.layNumbers(0, 0, 0);
        it.judge(0, 3, 1);
        it.meets(0, 1, 0);
        it.rewrite(3, 0, 0);
        due.is("status(6)", it.status(6), 2);
        due.is("tracePath(1)", it.tracePath(1), 8);
        due.is("run(3, 0)", it.run(3, 0), 3);
        due.is("trace(0)", it.trace(0), 3);
        due.is("tracePath(0)", it.tracePath(0), 0);
        due.is("trace(1)", it.trace(1), -1);
    }

    /** Paths deeper than 40 nodes: an argument grows while it is worked on alone, and shrinks again. */
    private static void traceWraps() {
        Due due = new Due("28");
        TermStrategies it = due.it;
        due.rule("a", Due.over(36, "f", "a"));
        due.rule("f(u)", "b");
        due.rule("a", "b");
        due.term("a");
        int grow = it.strategy(RULE, 0, 0);
        int shrink = it.strategy(RULE, 1, 0);
        int w = it.strategy(ONCE, it.strategy(RULE, 2, 0), 0);
        for (int k = 0; k < 4; k++) {
            w = it.strategy(ONCE, it.strategy(THEN, grow, it.strategy(THEN, w, shrink)), 0);
        }
        due.is("run", it.run(it.strategy(THEN, grow, w), 0), 1);
        due.reads("run", 1, Due.over(36, "f", "b"));
        due.is("status(6)", it.status(6), 10);
        long[] paths = new long[6];
        for (int k = 1; k < 6; k++) {
            paths[k] = paths[k - 1];
            for (int i = 0; i < 36; i++) {
                paths[k] = 3 * paths[k] + 1;
            }
        }
        int[] rules = {0, 0, 0, 0, 0, 2, 1, 1, 1, 1};
        int[] levels = {0, 1, 2, 3, 4, 5, 4, 3, 2, 1};
        for (int i = 0; i < 10; i++) {
            due.is("trace(" + i + ")", it.trace(i), rules[i]);
            due.is("tracePath(" + i + ")", it.tracePath(i), paths[levels[i]]);
        }
        due.is("replay(0, 1)", it.replay(0, 1), 2);
        due.is("replay(0, 2), above 40 nodes", it.replay(0, 2), -7);
        due.is("replay(2, 1)", it.replay(2, 1), -6);
    }

    private static void replay() {
        Due due = withRules("29");
        TermStrategies it = due.it;
        due.term("i(e(a),b)");
        due.is("replay(0, 0)", it.replay(0, 0), 1);
        due.reads("replay(0, 0)", 1, "i(e(a),b)");
        due.is("replay(0, 1)", it.replay(0, 1), -5);
        int inner = it.strategy(INNERMOST, it.strategy(ELSE, it.strategy(ELSE, 0, 1), 2), 0);
        due.is("run(inner, 0)", it.run(inner, 0), 2);
        due.is("status(6)", it.status(6), 4);
        String[] ways = {"i(e(a),b)", "i(e(b),b)", "i(e(c),b)", "i(c,b)", "i(c,c)"};
        for (int n = 0; n < 5; n++) {
            due.is("replay(0, " + n + ")", it.replay(0, n), 3 + n);
            due.reads("replay(0, " + n + ")", 3 + n, ways[n]);
        }
        due.is("replay(0, 5)", it.replay(0, 5), -5);
        due.is("replay(0, -1)", it.replay(0, -1), -5);
        due.is("replay(99, -1)", it.replay(99, -1), -1);
        due.is("replay(-1, 0)", it.replay(-1, 0), -1);
        due.term("i(e(b),b)");
        due.is("replay(8, 1), one that doesn't fit", it.replay(8, 1), -6);
        due.term("i(a,b)");
        due.is("replay(9, 1), no such node", it.replay(9, 1), -6);
        due.term("j(e(a),d)");
        due.is("replay(10, 3)", it.replay(10, 3), 11);
        due.reads("replay(10, 3)", 11, "j(c,d)");
        due.is("replay(10, 4)", it.replay(10, 4), -6);
        for (int t = 12; t < 24; t++) {
            due.term("a");
        }
        due.is("replay(0, 4) without room", it.replay(0, 4), -7);
        due.is("replay(10, 4) without room", it.replay(10, 4), -6);
        due.refused(2, 0, 0, 0, 3, 4, 1);

        replayBeyond();
        replayWithoutRule();
    }

    /** The whole counts when it is replayed; which refusal comes is what one comes to first. */
    private static void replayBeyond() {
        Due due = new Due("29");
        TermStrategies it = due.it;
        due.rule("b", Due.over(39, "f", "b"));
        due.rule("f(u)", "a");
        due.rule("a", "a");
        due.term("e(b)");
        int w = it.strategy(THEN, it.strategy(RULE, 0, 0), it.strategy(RULE, 1, 0));
        due.is("run", it.run(it.strategy(ALL, w, 0), 0), 1);
        due.is("status(6)", it.status(6), 2);
        due.is("replay(0, 1), above 40 nodes", it.replay(0, 1), -7);
        due.is("replay(0, 2), above 40 nodes", it.replay(0, 2), -7);
        due.is("replay(1, 2)", it.replay(1, 2), -6);
        due.refused(0, 0, 0, 0, 0, 1, 2);
    }

    private static void replayWithoutRule() {
        Due due = new Due("29");
        TermStrategies it = due.it;
        due.rule("a", "b");
        due.term("a");
        it.strategy(RULE, 0, 0);
        it.image();
        due.rule("b", "c");
        it.strategy(RULE, 1, 0);
        int w = it.strategy(THEN, 0, 1);
        due.is("run(w, 0)", it.run(w, 0), 1);
        due.is("replay(0, 2)", it.replay(0, 2), 2);
        due.is("restore()", it.restore(), 1);
        due.is("status(6)", it.status(6), 2);
        due.is("trace(1)", it.trace(1), 1);
        due.is("replay(0, 2), no such rule any more", it.replay(0, 2), -6);
        due.is("replay(0, 1)", it.replay(0, 1), 1);
        due.reads("replay(0, 1)", 1, "b");
        due.rule("b", "d");
        due.is("replay(0, 2) by another rule of that number", it.replay(0, 2), 2);
        due.reads("replay(0, 2)", 2, "d");
    }
}
