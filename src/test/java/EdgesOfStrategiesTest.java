/** The edges that the document names in "2. Strategies": a test for each sentence. */
public final class EdgesOfStrategiesTest {
    private static final int RULE = 0;
    private static final int KEEP = 1;
    private static final int FAIL = 2;
    private static final int THEN = 3;
    private static final int ELSE = 4;
    private static final int TRY = 5;
    private static final int ALL = 6;
    private static final int ONE = 7;
    private static final int SOME = 8;
    private static final int UP = 9;
    private static final int DOWN = 10;
    private static final int ONCE = 11;
    private static final int INNERMOST = 12;
    private static final int REPEAT = 13;

    public static void main(String[] args) {
        numbers();
        leaves();
        overTwo();
        tryOne();
        all();
        one();
        some();
        up();
        down();
        once();
        innermost();
        repeat();
        fortyRewritings();
        rewritingsThatAreLost();
        sixHundredBeginnings();
        beginningsThatCount();
        fortyNodes();
        anArgumentAlone();
        trace();
        traceOfWhatFailed();
        replayed();
        Edge.end();
    }

    private static void numbers() {
        Edge edge = Edge.of("They have numbers, from 0 on, 24 at most, each of a KIND, over RULES or earlier"
            + " STRATEGIES s, t.");
        edge.rule("a", "b");
        edge.refuses("strategy(0, 1, 0)", -1).refuses("strategy(0, -1, 0)", -1).is("strategy(0, 0, 0)", 0);
        edge.refuses("strategy(5, 1, 0)", -1).is("strategy(5, 0, 0)", 1);
        edge.refuses("strategy(3, 1, 2)", -1).refuses("strategy(3, 2, 1)", -1).is("strategy(3, 1, 1)", 2);
        edge.refuses("strategy(-1, 0, 0)", -1).refuses("strategy(14, 0, 0)", -1).is("strategy(13, 0, 0)", 3);
        for (int w = 4; w < 24; w++) {
            edge.is("strategy(5, " + (w - 1) + ", 0)", w);
        }
        edge.refuses("strategy(1, 0, 0)", -7).refuses("strategyOf(24, 0)", -5).is("strategyOf(23, 1)", 22)
            .is("status(2)", 24);
    }

    /** Rules a to b, b to c and e(u) to u, each of them a strategy; 3 is KEEP, 4 is FAIL, 5 is a choice of 0 and 1. */
    private static Edge withRules(String sentence) {
        return Edge.of(sentence).rule("a", "b").rule("b", "c").rule("e(u)", "u")
            .is("strategy(0, 0, 0)", 0).is("strategy(0, 1, 0)", 1).is("strategy(0, 2, 0)", 2)
            .is("strategy(1, 0, 0)", 3).is("strategy(2, 0, 0)", 4).is("strategy(4, 0, 1)", 5);
    }

    private static void leaves() {
        withRules("0 RULE r: REWRITES the whole, or FAILS.")
            .makes(0, "a", "b", "0@0").fails(0, "b").fails(0, "e(a)").makes(2, "e(e(a))", "e(a)", "2@0");
        withRules("1 KEEP: the same one.").makes(3, "a", "a", "").makes(3, "i(u,e(b))", "i(u,e(b))", "");
        withRules("2 FAIL: FAILS.").fails(4, "a").fails(4, "i(u,e(b))");
    }

    private static void overTwo() {
        withRules("3 THEN s t: s, then t of what that made; FAILS if either does.")
            .is("strategy(3, 0, 1)", 6).makes(6, "a", "c", "0@0 1@0").fails(6, "b").fails(6, "c")
            .is("strategy(3, 0, 0)", 7).fails(7, "a")
            .is("strategy(3, 3, 0)", 8).makes(8, "a", "b", "0@0").is("strategy(3, 4, 3)", 9).fails(9, "a");
        withRules("4 ELSE s t: s; if that FAILS, t.")
            .makes(5, "a", "b", "0@0").makes(5, "b", "c", "1@0").fails(5, "c")
            .is("strategy(4, 0, 3)", 6).makes(6, "a", "b", "0@0").makes(6, "c", "c", "")
            // t is of what was there, not of what s had made of it.
            .is("strategy(3, 0, 4)", 7).is("strategy(4, 7, 0)", 8).makes(8, "a", "b", "0@0")
            .is("strategy(4, 7, 1)", 9).fails(9, "a");
    }

    private static void tryOne() {
        withRules("5 TRY s: s; if that FAILS, the same one.")
            .is("strategy(5, 0, 0)", 6).makes(6, "a", "b", "0@0").makes(6, "b", "b", "")
            .is("strategy(3, 0, 4)", 7).is("strategy(5, 7, 0)", 8).makes(8, "a", "a", "");
    }

    private static void all() {
        withRules("6 ALL s: s of each argument, the first first; FAILS if one does.")
            .is("strategy(6, 5, 0)", 6)
            .makes(6, "i(a,b)", "i(b,c)", "0@1 1@2").makes(6, "e(a)", "e(b)", "0@1").makes(6, "c", "c", "")
            .fails(6, "i(a,c)").fails(6, "i(c,a)").fails(6, "i(c,c)").fails(6, "e(c)").fails(6, "i(e(a),b)");
    }

    private static void one() {
        withRules("7 ONE s: s of the first argument for which it doesn't FAIL; FAILS if there is none.")
            .is("strategy(7, 5, 0)", 6)
            .makes(6, "i(a,b)", "i(b,b)", "0@1").makes(6, "i(c,b)", "i(c,c)", "1@2").makes(6, "i(a,c)", "i(b,c)", "0@1")
            .makes(6, "e(a)", "e(b)", "0@1").fails(6, "i(c,c)").fails(6, "e(c)").fails(6, "a").fails(6, "i(e(a),e(b))");
    }

    private static void some() {
        withRules("8 SOME s: s of each argument for which it doesn't FAIL; FAILS if there is none.")
            .is("strategy(8, 5, 0)", 6)
            .makes(6, "i(a,b)", "i(b,c)", "0@1 1@2").makes(6, "i(c,b)", "i(c,c)", "1@2")
            .makes(6, "i(a,c)", "i(b,c)", "0@1")
            .makes(6, "e(a)", "e(b)", "0@1").fails(6, "i(c,c)").fails(6, "e(c)").fails(6, "a").fails(6, "i(e(a),e(b))");
    }

    private static void up() {
        withRules("9 UP s: UP s of each argument, the first first, then s of the whole; FAILS if one does.")
            .is("strategy(9, 5, 0)", 6).makes(6, "a", "b", "0@0").fails(6, "c").fails(6, "e(a)")
            .is("strategy(5, 5, 0)", 7).is("strategy(4, 2, 7)", 8).is("strategy(9, 8, 0)", 9)
            .makes(9, "e(a)", "b", "0@1 2@0").makes(9, "i(e(a),b)", "i(b,c)", "0@4 2@1 1@2").makes(9, "d", "d", "")
            .is("strategy(4, 0, 2)", 10).is("strategy(9, 10, 0)", 11).makes(11, "e(e(a))", "b", "0@4 2@1 2@0")
            .fails(11, "i(a,a)").fails(11, "e(b)").fails(11, "i(a,b)")
            .is("strategy(6, 4, 0)", 12).is("strategy(9, 12, 0)", 13).makes(13, "a", "a", "")
            .fails(13, "i(a,e(b))").fails(13, "i(e(b),a)").fails(13, "i(a,b)");
    }

    private static void down() {
        withRules("10 DOWN s: s of the whole, then DOWN s of each argument; FAILS if one does.")
            .is("strategy(10, 5, 0)", 6).makes(6, "a", "b", "0@0").fails(6, "c").fails(6, "i(a,b)")
            .is("strategy(5, 5, 0)", 7).is("strategy(4, 2, 7)", 8).is("strategy(10, 8, 0)", 9)
            // The arguments are those of what was made of the whole.
            .makes(9, "e(a)", "a", "2@0").makes(9, "e(e(a))", "e(b)", "2@0 0@1")
            .makes(9, "e(i(a,b))", "i(b,c)", "2@0 0@1 1@2")
            .is("strategy(10, 2, 0)", 10).makes(10, "e(a)", "a", "2@0").fails(10, "e(e(a))").fails(10, "e(i(e(b),b))");
    }

    private static void once() {
        withRules("11 ONCE s: s; if that FAILS, ONCE s of the first argument for which it doesn't FAIL; FAILS if"
            + " there is none.")
            .is("strategy(11, 5, 0)", 6).makes(6, "a", "b", "0@0").fails(6, "c").fails(6, "i(c,e(c))")
            .makes(6, "i(a,b)", "i(b,b)", "0@1").makes(6, "i(c,i(e(b),a))", "i(c,i(e(c),a))", "1@22")
            .is("strategy(11, 2, 0)", 7).makes(7, "e(e(a))", "e(a)", "2@0").makes(7, "i(a,e(a))", "i(a,a)", "2@2");
    }

    private static void innermost() {
        withRules("12 INNERMOST s: INNERMOST s of each argument, the first first; then s of the whole: if that"
            + " FAILS, it is done, else INNERMOST s of what that made.")
            .rule("f(u)", "e(e(u))").is("strategy(0, 3, 0)", 6).is("strategy(4, 5, 2)", 7).is("strategy(4, 7, 6)", 8)
            .is("strategy(12, 8, 0)", 9)
            .makes(9, "c", "c", "").makes(9, "i(c,d)", "i(c,d)", "").makes(9, "a", "c", "0@0 1@0")
            .makes(9, "e(a)", "c", "0@1 1@1 2@0").makes(9, "i(e(b),a)", "i(c,c)", "1@4 2@1 0@2 1@2")
            .makes(9, "f(a)", "c", "0@1 1@1 3@0 2@1 2@0")
            .is("strategy(12, 4, 0)", 10).makes(10, "i(a,b)", "i(a,b)", "");
    }

    private static void repeat() {
        withRules("13 REPEAT s: s again and again, till it FAILS: what was there then.")
            .is("strategy(13, 2, 0)", 6).makes(6, "e(e(a))", "a", "2@0 2@0").makes(6, "a", "a", "")
            .is("strategy(13, 5, 0)", 7).makes(7, "a", "c", "0@0 1@0").is("strategy(13, 4, 0)", 8)
            .makes(8, "a", "a", "")
            .is("strategy(3, 0, 1)", 9).is("strategy(13, 9, 0)", 10).makes(10, "a", "c", "0@0 1@0")
            .makes(10, "b", "b", "")
            .is("strategy(13, 3, 0)", 11).ends(11, "a");
    }

    /** The rule a to a, and strategies that do it 1, 2, 4, 8, 16, 32 and 40 times. */
    private static Edge withForty(String sentence) {
        Edge edge = Edge.of(sentence).rule("a", "a").terms("a").is("strategy(0, 0, 0)", 0);
        edge.doubled(5);
        return edge.is("strategy(3, 5, 3)", 6);
    }

    private static void fortyRewritings() {
        Edge edge = withForty("A RUN ENDS ahead of the 41st REWRITING in it");
        edge.is("trial(6, 0, 0)", 0).is("trial(6, 0, 2)", 40).is("run(6, 0)", 1).is("status(6)", 40);
        edge.is("trace(39)", 0).is("tracePath(39)", 0).keeps("trace(40)", -1);
        edge.is("strategy(3, 6, 0)", 7).is("trial(7, 0, 0)", 2).refuses("run(7, 0)", -7);
        // A 41st that doesn't fit is none.
        edge.rule("b", "b").is("strategy(0, 1, 0)", 8).is("strategy(3, 6, 8)", 9).is("trial(9, 0, 0)", 1);
        edge.is("strategy(4, 9, 0)", 10).is("trial(10, 0, 0)", 2);
        edge.is("strategy(13, 0, 0)", 11).is("trial(11, 0, 0)", 2).is("trial(11, 0, 2)", 0);
        // Each run has its own.
        edge.is("run(6, 0)", 2).is("run(6, 0)", 3);
    }

    private static void rewritingsThatAreLost() {
        Edge edge = withForty("(those of what FAILED then count)");
        edge.is("strategy(2, 0, 0)", 7).is("strategy(3, 0, 7)", 8).is("strategy(5, 8, 0)", 9);
        edge.is("strategy(3, 5, 2)", 10).is("strategy(3, 10, 1)", 11).is("strategy(3, 11, 0)", 12);
        edge.is("strategy(3, 9, 12)", 13).is("trial(13, 0, 0)", 0).is("trial(13, 0, 2)", 39);
        edge.is("strategy(3, 9, 6)", 14).is("trial(14, 0, 0)", 2);
        // 40 that are lost, then none or one more.
        edge.is("strategy(3, 6, 7)", 15).is("strategy(5, 15, 0)", 16).is("trial(16, 0, 0)", 0).is("trial(16, 0, 2)", 0);
        edge.is("strategy(4, 15, 0)", 17).is("trial(17, 0, 0)", 2).is("strategy(3, 16, 0)", 18)
            .is("trial(18, 0, 0)", 2);
    }

    private static void sixHundredBeginnings() {
        Edge edge = Edge.of("ahead of the 601st time that a STRATEGY is begun");
        edge.terms("a").is("strategy(1, 0, 0)", 0);
        edge.doubled(8);
        // 511 and 63 and 15 and 7 and three that join them: 599.
        edge.is("strategy(3, 8, 5)", 9).is("strategy(3, 9, 3)", 10).is("strategy(3, 10, 2)", 11);
        edge.is("trial(11, 0, 0)", 0).is("strategy(5, 11, 0)", 12).is("trial(12, 0, 0)", 0).is("run(12, 0)", 1);
        edge.is("strategy(5, 12, 0)", 13).is("trial(13, 0, 0)", 2).refuses("run(13, 0)", -7);
        edge.is("strategy(3, 11, 0)", 14).is("trial(14, 0, 0)", 2);
        // A 601st ends the run even if it would only fail.
        edge.is("strategy(2, 0, 0)", 15).is("strategy(3, 11, 15)", 16).is("trial(16, 0, 0)", 2);
        edge.is("run(12, 0)", 2).is("run(12, 0)", 3);
    }

    private static void beginningsThatCount() {
        String sentence = "(each time that one is told to begin above: s, t, and UP, DOWN, ONCE, INNERMOST"
            + " themselves again; the first one too)";
        int rule = -1;
        int[][] begun = {
            {KEEP, KEEP, 1}, {FAIL, KEEP, 1}, {RULE, KEEP, 1},
            {THEN, KEEP, 3}, {THEN, FAIL, 2}, {ELSE, KEEP, 2}, {ELSE, FAIL, 3}, {TRY, KEEP, 2}, {TRY, FAIL, 2},
            {ALL, KEEP, 3}, {ALL, FAIL, 2}, {ONE, KEEP, 2}, {ONE, FAIL, 3}, {SOME, KEEP, 3}, {SOME, FAIL, 3},
            {UP, KEEP, 8}, {UP, FAIL, 4}, {DOWN, KEEP, 8}, {DOWN, FAIL, 2}, {ONCE, KEEP, 2}, {ONCE, FAIL, 8},
            {ONCE, rule, 6}, {INNERMOST, FAIL, 8}, {INNERMOST, rule, 10}, {REPEAT, FAIL, 2}, {ALL, rule, 2},
        };
        Edge edge = Edge.of(sentence);
        for (int[] row : begun) {
            begins(edge.anew(), row[0], row[1], row[2]);
        }
    }

    /** As many are begun ahead of a kind, of KEEP, FAIL or a rule, that 600 are begun in all; and then one more. */
    private static void begins(Edge edge, int kind, int of, int begun) {
        edge.rule("a", "b").terms("j(e(a),b)").is("strategy(1, 0, 0)", 0);
        edge.doubled(8);
        edge.is("strategy(2, 0, 0)", 9).is("strategy(0, 0, 0)", 10);
        int s = of == KEEP ? 0 : of == FAIL ? 9 : 10;
        int given = kind == RULE ? 0 : s;
        // What is tested may fail: TRY, which begins once more, makes a term of that.
        edge.is("strategy(" + kind + ", " + given + ", " + s + ")", 11).is("strategy(5, 11, 0)", 12);
        int w = 12;
        int ahead = 600 - begun - 1;
        if (ahead % 2 == 1) {
            w++;
            edge.is("strategy(5, 12, 0)", w);
            ahead--;
        }
        for (int k = 8; k >= 0; k--) {
            if (ahead >= 2 << k) {
                w++;
                edge.is("strategy(3, " + k + ", " + (w - 1) + ")", w);
                ahead -= 2 << k;
            }
        }
        edge.is("trial(" + w + ", 0, 0)", 0).is("strategy(5, " + w + ", 0)", w + 1)
            .is("trial(" + (w + 1) + ", 0, 0)", 2);
    }

    private static void fortyNodes() {
        Edge edge = Edge.of("and if a TERM would have more than 40 NODES");
        edge.rule("g(u)", "e(j(u,u))").rule("h(u)", "j(u,u)").terms(Edge.over(18, "f", "a"));
        edge.is("strategy(0, 0, 0)", 0).is("strategy(0, 1, 0)", 1);
        edge.terms("g(" + Edge.over(18, "f", "a") + ")", "h(" + Edge.over(19, "f", "a") + ")");
        // It is so as often as one asks.
        for (int k = 0; k < 100; k++) {
            edge.is("trial(0, 1, 1)", 40);
        }
        edge.is("run(0, 1)", 3).is("trial(1, 2, 0)", 2).refuses("run(1, 2)", -7);

        String thirtyNine = Edge.over(38, "f", "a");
        edge.anew().rule("b", thirtyNine).terms("e(b)", "e(e(b))", "i(b,a)", "i(a,b)", "i(b,b)", "k(e(b),b)");
        edge.is("strategy(0, 0, 0)", 0).is("strategy(5, 0, 0)", 1);
        for (int kind = ALL; kind <= INNERMOST; kind++) {
            int w = 2 * kind - 10;
            int of = kind == UP || kind == DOWN ? 1 : 0;
            edge.is("strategy(" + kind + ", " + of + ", 0)", w).is("strategy(6, " + w + ", 0)", w + 1);
            edge.is("trial(" + w + ", 0, 1)", 40).is("trial(" + w + ", 4, 0)", 2);
            edge.is("trial(" + (w + 1) + ", 1, 0)", 2);
            if (kind != ALL) {
                edge.is("trial(" + w + ", 2, 0)", 2).is("trial(" + w + ", 3, 0)", 2);
            }
        }
    }

    private static void anArgumentAlone() {
        Edge edge = Edge.of("(an argument alone counts alone, while it is worked on)");
        edge.rule("b", Edge.over(39, "f", "a")).rule("f(u)", "c");
        edge.is("strategy(0, 0, 0)", 0).is("strategy(0, 1, 0)", 1).is("strategy(3, 0, 1)", 2);
        edge.is("strategy(6, 2, 0)", 3).is("strategy(6, 0, 0)", 4).is("strategy(6, 3, 0)", 5);
        edge.makes(3, "i(b,b)", "i(c,c)", "0@1 1@1 0@2 1@2").makes(3, "e(b)", "e(c)", "0@1 1@1").ends(4, "e(b)");
        edge.makes(5, "i(e(b),e(b))", "i(e(c),e(c))", "0@4 1@4 0@7 1@7");

        edge.anew().rule("g(u)", "e(j(u,u))").rule("h(u)", "j(u,u)").rule("e(u)", "c").rule("j(u,v)", "c");
        edge.is("strategy(0, 0, 0)", 0).is("strategy(0, 1, 0)", 1).is("strategy(0, 2, 0)", 2)
            .is("strategy(0, 3, 0)", 3);
        edge.is("strategy(3, 0, 2)", 4).is("strategy(6, 4, 0)", 5).is("strategy(3, 1, 3)", 6)
            .is("strategy(6, 6, 0)", 7);
        edge.makes(5, "f(g(" + Edge.over(18, "f", "a") + "))", "f(c)", "0@1 2@1");
        edge.ends(7, "f(h(" + Edge.over(19, "f", "a") + "))");
    }

    private static void trace() {
        Edge edge = withRules("THE TRACE (none at first): the REWRITINGS of the latest run() that neither FAILED nor"
            + " ENDED, in their order, each the RULE and the PATH from the whole");
        edge.is("status(6)", 0).keeps("trace(0)", -1).keeps("tracePath(0)", -1);
        edge.is("strategy(11, 5, 0)", 6).is("strategy(8, 6, 0)", 7).is("strategy(13, 3, 0)", 8)
            .is("strategy(3, 0, 8)", 9);
        edge.terms("i(e(b),k(d,a))", "a").is("run(7, 0)", 2).is("status(6)", 2);
        edge.is("trace(0)", 1).is("tracePath(0)", 4).is("trace(1)", 0).is("tracePath(1)", 8).keeps("trace(2)", -1);
        // One that fails, one that ends, and what is no run() of its own.
        edge.refuses("run(4, 1)", -6).refuses("run(9, 1)", -7).keeps("trial(0, 1, 0)", 0).numbers(0, 1, 1);
        edge.keeps("judge(0, 0, 1)", 0).is("rewrite(0, 1, 0)", 3).is("replay(0, 1)", 4);
        edge.is("status(6)", 2).is("trace(0)", 1).is("tracePath(1)", 8);
        edge.is("run(3, 1)", 5).is("status(6)", 0).keeps("trace(0)", -1).keeps("tracePath(0)", -1);
    }

    private static void traceOfWhatFailed() {
        withRules("what was REWRITTEN by a STRATEGY that FAILED then doesn't count.")
            .is("strategy(3, 0, 4)", 6).is("strategy(5, 6, 0)", 7).makes(7, "a", "a", "")
            .is("strategy(4, 6, 0)", 8).makes(8, "a", "b", "0@0").is("strategy(3, 0, 7)", 9).makes(9, "a", "b", "0@0")
            // An argument that is passed over, one of all that fail, and the last try of REPEAT.
            .is("strategy(3, 0, 1)", 10).is("strategy(3, 5, 1)", 11).is("strategy(7, 11, 0)", 12)
            .makes(12, "i(b,a)", "i(b,c)", "0@2 1@2").is("strategy(8, 11, 0)", 13)
            .makes(13, "i(b,a)", "i(b,c)", "0@2 1@2")
            .is("strategy(6, 5, 0)", 14).is("strategy(5, 14, 0)", 15).makes(15, "i(a,c)", "i(a,c)", "")
            .is("strategy(13, 11, 0)", 16).makes(16, "b", "b", "").makes(16, "a", "c", "0@0 1@0");
    }

    private static void replayed() {
        withRules("REPLAYED: a TERM, REWRITTEN by each of THE TRACE at its PATH.")
            .is("strategy(4, 5, 2)", 6).is("strategy(12, 6, 0)", 7)
            .terms("i(e(a),b)", "j(e(a),d)", "i(e(b),b)", "i(a,b)")
            .is("run(7, 0)", 4).reads(4, "i(c,c)").is("status(6)", 4)
            .is("replay(0, 4)", 5).reads(5, "i(c,c)").is("replay(0, 3)", 6).reads(6, "i(c,b)")
            .is("replay(0, 0)", 7).reads(7, "i(e(a),b)").is("replay(1, 3)", 8).reads(8, "j(c,d)")
            .refuses("replay(1, 4)", -6).refuses("replay(2, 1)", -6).refuses("replay(3, 1)", -6)
            .refuses("replay(0, 5)", -5);
    }
}
