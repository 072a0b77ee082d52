/** Promises 23 to 39: the edges of each, the last value that is right and the first one that isn't. */
public final class EdgesOfLaterPromisesTest {
    public static void main(String[] args) {
        strategy();
        strategyOf();
        run();
        trial();
        trace();
        tracePath();
        replay();
        replayAsOneComes();
        unify();
        unifyBeyond();
        overlaps();
        overlapsWithRoom();
        overlap();
        meets();
        judge();
        judgeEighty();
        judgeTogether();
        days();
        seed();
        image();
        restore();
        restoreShelves();
        status();
        Edge.end();
    }

    private static void strategy() {
        Edge edge = Edge.of("A new STRATEGY of a KIND (0 to 13): a the RULE (KIND 0), s (3 to 13), b t (3, 4;"
            + " others: any number); its number. -1; -7.").full();
        edge.refuses("strategy(-1, 0, 0)", -1).refuses("strategy(14, 0, 0)", -1).refuses("strategy(MOST, 0, 0)", -1);
        edge.refuses("strategy(0, 2, 0)", -1).refuses("strategy(0, -1, 0)", -1);
        for (int kind = 3; kind < 14; kind++) {
            edge.refuses("strategy(" + kind + ", 7, 0)", -1).refuses("strategy(" + kind + ", -1, 0)", -1);
        }
        edge.refuses("strategy(3, 0, 7)", -1).refuses("strategy(3, 0, -1)", -1).refuses("strategy(4, 0, 7)", -1);
        edge.refuses("strategy(4, 0, -1)", -1).is("strategy(0, 1, 99)", 7).is("strategy(1, 99, -99)", 8);
        edge.is("strategy(2, LEAST, MOST)", 9).is("strategy(3, 9, 8)", 10).is("strategy(4, 10, 10)", 11);
        for (int kind = 5; kind < 14; kind++) {
            edge.is("strategy(" + kind + ", " + (kind + 6) + ", 99)", kind + 7);
        }
        edge.is("strategy(1, 0, 0)", 21).is("strategy(1, 0, 0)", 22).is("strategy(13, 22, -1)", 23);
        edge.refuses("strategy(1, 0, 0)", -7).refuses("strategy(13, 23, 0)", -7).refuses("strategy(13, 24, 0)", -1);
        edge.refuses("strategy(14, 0, 0)", -1).refuses("strategy(0, 2, 0)", -1);
    }

    private static void strategyOf() {
        Edge edge = Edge.of("Of one: 0 KIND, 1 RULE or s, 2 t (NONE: there is no such). -5: no such one, another what.")
            .full();
        edge.refuses("strategyOf(7, 0)", -5).refuses("strategyOf(-1, 0)", -5).refuses("strategyOf(7, 3)", -5);
        edge.refuses("strategyOf(0, 3)", -5).refuses("strategyOf(0, -1)", -5).refuses("strategyOf(MOST, 0)", -5);
        edge.refuses("strategyOf(24, 0)", -5);
        int[][] told = {{0, 0, -1}, {1, -1, -1}, {2, -1, -1}, {3, 0, 1}, {4, 2, 1}, {11, 0, -1}, {13, 1, -1}};
        edge.is("strategy(1, 5, 6)", 7).is("strategy(2, 5, 6)", 8).is("strategy(0, 1, 6)", 9)
            .is("strategy(5, 9, 6)", 10);
        int[][] more = {{1, -1, -1}, {2, -1, -1}, {0, 1, -1}, {5, 9, -1}};
        for (int w = 0; w < 11; w++) {
            for (int what = 0; what < 3; what++) {
                edge.keeps("strategyOf(" + w + ", " + what + ")", w < 7 ? told[w][what] : more[w - 7][what]);
            }
        }
    }

    private static void run() {
        Edge edge = Edge.of("A RUN of a STRATEGY with a TERM: what it makes is a new TERM: its number. -1; -6 it"
            + " FAILS; -7 it ENDS, or there is no room for a TERM.").full();
        edge.refuses("run(7, 0)", -1).refuses("run(-1, 0)", -1).refuses("run(0, 7)", -1).refuses("run(0, -1)", -1);
        edge.refuses("run(0, 2)", -6).refuses("run(2, 0)", -6).refuses("run(6, 0)", -7);
        edge.is("run(0, 0)", 7).reads(7, "u").reads(0, "e(u)").is("run(1, 2)", 8).reads(8, "i(a,e(b))");
        edge.numbered("run(1, 3)", 9, 23);
        edge.refuses("run(1, 3)", -7).refuses("run(6, 3)", -7).refuses("run(2, 3)", -6).refuses("run(7, 3)", -1);
        edge.is("drop()", 23).is("run(1, 3)", 23).is("status(16)", 4).is("status(17)", 3);
    }

    private static void trial() {
        Edge edge = Edge.of("What a RUN would come to: 0 it makes a TERM, 1 FAILS, 2 ENDS (what 0); how many NODES"
            + " that has (1; 0: none), how many REWRITINGS THE TRACE would have (2; 0: none). -1; -5 another what.").full();
        edge.refuses("trial(7, 0, 3)", -1).refuses("trial(-1, 0, 3)", -1).refuses("trial(0, 7, 3)", -1);
        edge.refuses("trial(0, -1, 3)", -1).refuses("trial(0, 0, 3)", -5).refuses("trial(0, 0, -1)", -5);
        edge.refuses("trial(2, 0, 3)", -5).refuses("trial(6, 0, MOST)", -5);
        int[][] told = {{0, 1, 1}, {0, 2, 0}, {1, 0, 0}, {0, 1, 1}, {0, 2, 0}, {0, 1, 1}, {2, 0, 0}};
        for (int w = 0; w < 7; w++) {
            for (int what = 0; what < 3; what++) {
                edge.keeps("trial(" + w + ", 0, " + what + ")", told[w][what]);
            }
        }
        // Rewritings ahead of where it fails or ends are none of a trace.
        edge.is("strategy(3, 0, 2)", 7).keeps("trial(7, 0, 2)", 0).is("strategy(3, 0, 6)", 8)
            .keeps("trial(8, 0, 2)", 0);
        edge.keeps("trial(8, 0, 1)", 0);
        // Without room for a term it is told all the same.
        edge.numbered("replay(3, 0)", 7, 23);
        edge.keeps("trial(0, 0, 0)", 0).keeps("trial(0, 0, 1)", 1).keeps("trial(0, 0, 2)", 1);
        edge.anew().rule("h(u)", "f(j(u,u))").terms("h(" + Edge.over(18, "e", "a") + ")").is("strategy(0, 0, 0)", 0);
        edge.keeps("trial(0, 0, 1)", 40);
    }

    private static void trace() {
        Edge edge = Edge.of("The RULE of the i-th of THE TRACE. NONE: none such.").full();
        edge.keeps("trace(0)", 0).keeps("trace(1)", -1).keeps("trace(-1)", -1).keeps("trace(40)", -1)
            .keeps("trace(MOST)", -1);
        edge.keeps("trace(LEAST)", -1).is("strategy(0, 1, 0)", 7).is("strategy(11, 7, 0)", 8)
            .is("strategy(3, 8, 5)", 9);
        edge.is("run(9, 2)", 7).keeps("trace(0)", 1).keeps("trace(1)", 0).keeps("trace(2)", -1);
        edge.is("run(1, 2)", 8).keeps("trace(0)", -1);
    }

    private static void tracePath() {
        Edge edge = Edge.of("The PATH of the i-th of THE TRACE. NONE: none such.").full();
        edge.keeps("tracePath(0)", 2).keeps("tracePath(1)", -1).keeps("tracePath(-1)", -1).keeps("tracePath(40)", -1);
        edge.keeps("tracePath(MOST)", -1).keeps("tracePath(LEAST)", -1).is("strategy(0, 1, 0)", 7)
            .is("strategy(11, 7, 0)", 8);
        edge.is("strategy(3, 8, 5)", 9).is("run(9, 2)", 7).keeps("tracePath(0)", 1).keeps("tracePath(1)", 2);
        edge.keeps("tracePath(2)", -1).is("run(1, 2)", 8).keeps("tracePath(0)", -1);
    }

    private static void replay() {
        Edge edge = Edge.of("A new TERM: t REWRITTEN by the first n of THE TRACE: its number. -1; -5 n below 0 or"
            + " above how many there are; -6 one doesn't FIT, there is no such NODE, no such RULE (any more); -7"
            + " above 40 NODES (these two as one comes to them), no room.").full();
        edge.refuses("replay(7, 9)", -1).refuses("replay(-1, 9)", -1).refuses("replay(2, -1)", -5)
            .refuses("replay(2, 2)", -5);
        edge.refuses("replay(2, MOST)", -5).refuses("replay(2, LEAST)", -5).refuses("replay(0, 2)", -5);
        // One doesn't fit; there is no such node.
        edge.refuses("replay(6, 1)", -6).refuses("replay(3, 1)", -6).refuses("replay(0, 1)", -6);
        edge.is("replay(2, 1)", 7).reads(7, "i(a,b)").is("replay(2, 0)", 8).reads(8, "i(a,e(b))").is("replay(3, 0)", 9);
        edge.numbered("replay(3, 0)", 10, 23);
        edge.refuses("replay(3, 0)", -7).refuses("replay(2, 1)", -7).refuses("replay(3, 1)", -6)
            .refuses("replay(3, 2)", -5);
        edge.refuses("replay(24, 2)", -1);
        // There is no such node, whatever was made ahead of that.
        edge.anew().rule("a", "b").terms("i(b,a)", "e(a)", "a", "i(a,b)").is("strategy(0, 0, 0)", 0);
        edge.is("strategy(11, 0, 0)", 1).is("run(1, 0)", 4).is("tracePath(0)", 2).terms(Edge.over(39, "e", "a"));
        edge.refuses("replay(1, 1)", -6).refuses("replay(2, 1)", -6).refuses("replay(3, 1)", -6)
            .refuses("replay(5, 1)", -6);
        // There is no such rule any more; then there is another one of its number.
        edge.anew().rule("a", "b").terms("a").is("strategy(0, 0, 0)", 0).is("image()", 1).rule("b", "c");
        edge.is("strategy(0, 1, 0)", 1).is("strategy(3, 0, 1)", 2).is("run(2, 0)", 1).is("restore()", 1)
            .is("status(6)", 2);
        edge.refuses("replay(0, 2)", -6).is("replay(0, 1)", 1).reads(1, "b").rule("b", "d").is("replay(0, 2)", 2)
            .reads(2, "d");
    }

    /** The trace: b becomes 39 nodes, and those d. Within e(b) the first of these has 40 in all, within e(e(b)) 41. */
    private static void replayAsOneComes() {
        Edge edge = Edge.of("-7 above 40 NODES (these two as one comes to them), no room.");
        edge.rule("b", Edge.over(38, "f", "a")).rule("f(u)", "d").terms("e(b)", "e(e(b))", "i(b,c)", "i(c,b)");
        edge.is("strategy(0, 0, 0)", 0).is("strategy(0, 1, 0)", 1).is("strategy(3, 0, 1)", 2)
            .is("strategy(6, 2, 0)", 3);
        edge.is("run(3, 0)", 4).reads(4, "e(d)").is("status(6)", 2).is("tracePath(0)", 1);
        edge.is("replay(0, 1)", 5).is("termOf(5, 0)", 40).is("replay(0, 2)", 6).reads(6, "e(d)");
        edge.refuses("replay(2, 1)", -7).refuses("replay(2, 2)", -7).refuses("replay(1, 1)", -6)
            .refuses("replay(3, 2)", -6);
        // One node deeper, where it was worked on alone.
        edge.is("strategy(6, 3, 0)", 4).is("run(4, 1)", 7).reads(7, "e(e(d))");
        edge.is("tracePath(0)", 4).refuses("replay(1, 1)", -7).refuses("replay(1, 2)", -7).refuses("replay(0, 1)", -6);
        while (edge.call("status(0)") < 24) {
            edge.does("replay(0, 0)");
        }
        edge.refuses("replay(1, 1)", -7).refuses("replay(0, 1)", -6).refuses("replay(0, 0)", -7);
    }

    private static void unify() {
        Edge edge = Edge.of("A new TERM: what comes of UNIFY (the VARIABLES of u are taken for others): its number."
            + " -1; -5 more than three VARIABLES in one; -6 NONE; -7 also above 40 NODES.").full();
        edge.terms("k(k(u,v),w)", "k(k(u,v),k(w,x))", "k(k(a,b),k(c,z))", "e(e(u))");
        edge.refuses("unify(11, 8)", -1).refuses("unify(8, 11)", -1).refuses("unify(-1, 8)", -1)
            .refuses("unify(8, -1)", -1);
        edge.refuses("unify(8, 3)", -5).refuses("unify(3, 8)", -5).refuses("unify(8, 9)", -5)
            .refuses("unify(7, 8)", -5);
        edge.refuses("unify(0, 3)", -6).refuses("unify(3, 5)", -6).is("unify(7, 9)", 11).reads(11, "k(k(a,b),k(c,u))");
        // The same variable in both is two of them.
        edge.is("unify(1, 0)", 12).reads(12, "e(u)").is("unify(0, 10)", 13).reads(13, "e(e(u))").is("unify(0, 0)", 14);
        edge.reads(14, "e(u)");
        edge.numbered("unify(0, 0)", 15, 23);
        edge.refuses("unify(0, 0)", -7).refuses("unify(0, 3)", -6).refuses("unify(8, 3)", -5)
            .refuses("unify(24, 8)", -1);
    }

    private static void unifyBeyond() {
        Edge edge = Edge.of("-6 NONE; -7 also above 40 NODES.");
        edge.terms("i(e(u),u)", "i(v," + Edge.over(18, "f", "w") + ")", "i(v," + Edge.over(19, "f", "w") + ")",
            "i(u,u)");
        edge.is("unify(0, 1)", 4).is("termOf(4, 0)", 40).refuses("unify(0, 2)", -7).is("unify(3, 1)", 5)
            .is("termOf(5, 0)", 39);
        edge.refuses("unify(3, 2)", -7);
    }

    private static void overlaps() {
        Edge edge = Edge.of("How many OVERLAPS (those whose PEAK or ways have more than 40 NODES aren't told). -1.")
            .full();
        edge.refuses("overlaps(2, 0)", -1).refuses("overlaps(0, 2)", -1).refuses("overlaps(-1, 0)", -1);
        edge.refuses("overlaps(0, -1)", -1).keeps("overlaps(0, 0)", 0).keeps("overlaps(0, 1)", 0)
            .keeps("overlaps(1, 1)", 0);
        edge.rule("e(a)", "c").keeps("overlaps(2, 1)", 1).keeps("overlaps(2, 0)", 1).keeps("overlaps(0, 2)", 1);
        edge.keeps("overlaps(1, 2)", 0).refuses("overlaps(3, 0)", -1);
    }

    private static void overlapsWithRoom() {
        Edge edge = Edge.of("(those whose PEAK or ways have more than 40 NODES aren't told)");
        edge.rule("i(u,e(v))", "v").rule("e(" + Edge.over(36, "f", "a") + ")", "a").keeps("overlaps(0, 1)", 1);
        edge.rule("i(u,e(g(v)))", "v").rule("e(g(" + Edge.over(36, "f", "a") + "))", "a").keeps("overlaps(0, 3)", 0);
        edge.keeps("overlaps(2, 3)", 0).is("overlap(0, 1, 0, 0)", 0).is("termOf(0, 0)", 40);
        // The way of r, and the other way about that of q.
        edge.anew().rule("e(f(u))", "g(j(u,u))").rule("e(f(" + Edge.over(18, "f", "a") + "))", "a");
        edge.keeps("overlaps(0, 1)", 1).keeps("overlaps(1, 0)", 1).is("overlap(0, 1, 0, 1)", 0).is("termOf(0, 0)", 40);
        edge.is("overlap(1, 0, 0, 2)", 1).is("termOf(1, 0)", 40);
        edge.anew().rule("e(f(u))", "j(u,u)").rule("e(f(" + Edge.over(19, "f", "a") + "))", "a");
        edge.keeps("overlaps(0, 1)", 0).keeps("overlaps(1, 0)", 0).refuses("overlap(0, 1, 0, 0)", -5)
            .refuses("meets(1, 0, 0)", -5);
        // Those that aren't told have no number: the one behind them has it.
        edge.anew().rule("i(e(" + Edge.over(18, "f", "a") + "),e(b))", "a").rule("e(u)", "j(u,u)")
            .keeps("overlaps(0, 1)", 1);
        edge.is("overlap(0, 1, 0, 2)", 0).is("node(0, 1)", 'e').is("node(0, 21)", 'j')
            .refuses("overlap(0, 1, 1, 2)", -5);
    }

    private static void overlap() {
        Edge edge = Edge.of("A new TERM: of the i-th OVERLAP the PEAK (which 0), the way of r (1), of q (2): its"
            + " number. -1; -5 no such one, another which; -7.").full();
        edge.rule("e(a)", "c").rule("j(e(u),e(v))", "u");
        edge.refuses("overlap(4, 0, 9, 9)", -1).refuses("overlap(0, 4, 9, 9)", -1).refuses("overlap(-1, 0, 9, 9)", -1);
        edge.refuses("overlap(0, -1, 9, 9)", -1).refuses("overlap(3, 0, 2, 0)", -5).refuses("overlap(3, 0, -1, 0)", -5);
        edge.refuses("overlap(3, 0, MOST, 0)", -5).refuses("overlap(3, 0, LEAST, 0)", -5)
            .refuses("overlap(3, 0, 0, 3)", -5);
        edge.refuses("overlap(3, 0, 0, -1)", -5).refuses("overlap(0, 0, 0, 0)", -5).refuses("overlap(3, 0, 2, 3)", -5);
        edge.is("overlap(3, 0, 0, 0)", 7).reads(7, "j(e(u),e(v))").is("overlap(3, 0, 0, 1)", 8).reads(8, "u");
        edge.is("overlap(3, 0, 0, 2)", 9).reads(9, "j(u,e(v))").is("overlap(3, 0, 1, 2)", 10).reads(10, "j(e(u),v)");
        edge.numbered("overlap(2, 1, 0, 2)", 11, 23);
        edge.reads(23, "e(b)").refuses("overlap(2, 1, 0, 2)", -7).refuses("overlap(2, 1, 1, 2)", -5);
        edge.refuses("overlap(2, 1, 0, 3)", -5).refuses("overlap(4, 1, 0, 0)", -1);
    }

    private static void meets() {
        Edge edge = Edge.of("Whether the i-th OVERLAP MEETS (1, 0); 2: one of them ENDS. -1; -5 no such one.").full();
        edge.rule("e(a)", "c").rule("j(e(u),e(v))", "u");
        edge.refuses("meets(4, 0, 9)", -1).refuses("meets(0, 4, 9)", -1).refuses("meets(-1, 0, 9)", -1)
            .refuses("meets(0, -1, 9)", -1);
        edge.refuses("meets(3, 0, 2)", -5).refuses("meets(3, 0, -1)", -5).refuses("meets(0, 0, 0)", -5)
            .refuses("meets(3, 0, MOST)", -5);
        edge.keeps("meets(3, 0, 0)", 0).keeps("meets(2, 1, 0)", 0).keeps("meets(2, 0, 0)", 0)
            .keeps("meets(0, 2, 0)", 0);
        edge.rule("c", "b").keeps("meets(2, 1, 0)", 1).keeps("meets(2, 0, 0)", 1);
        // The way of r alone ends, that of q alone, and both.
        edge.anew().rule("e(a)", "c").rule("a", "b").rule("c", "f(c)").keeps("meets(0, 1, 0)", 2);
        edge.anew().rule("e(a)", "c").rule("a", "b").rule("b", "f(b)").keeps("meets(0, 1, 0)", 2);
        edge.anew().rule("e(a)", "b").rule("a", "b").rule("b", "f(b)").keeps("meets(0, 1, 0)", 2);
        edge.anew().rule("e(a)", "c").rule("a", "b").rule("d", "f(d)").keeps("meets(0, 1, 0)", 0);
        // It wants no room for terms or strategies.
        edge.is("strategy(1, 0, 0)", 0).terms("a");
        for (int k = 1; k < 24; k++) {
            edge.is("strategy(1, 0, 0)", k).is("replay(0, 0)", k);
        }
        edge.keeps("meets(0, 1, 0)", 0).is("strategyOf(23, 0)", 1);
    }

    private static void judge() {
        Edge edge = Edge.of("By the first n twos (0 to 80) of the ROW in SHELF s, numbers of TERMS: the first two"
            + " for which w doesn't make of the first a TERM that is the SAME as the second; NONE.").full();
        edge.keeps("judge(3, 1, 0)", -1).keeps("judge(3, 1, 1)", -1).keeps("judge(3, 1, 2)", -1);
        edge.keeps("judge(3, 2, 0)", -1).keeps("judge(3, 2, 1)", 0).keeps("judge(3, 6, 1)", 0)
            .keeps("judge(3, 0, 2)", 0);
        edge.is("set(3, 1, 6)", 1).keeps("judge(3, 5, 1)", -1).keeps("judge(3, 5, 2)", 1).keeps("judge(3, 1, 2)", 0);
        // The same but for order isn't the same; the elements behind the first n twos aren't looked at.
        edge.terms("i(b,a)").is("same(6, 7)", 1).is("set(3, 1, 7)", 1).keeps("judge(3, 5, 1)", 0).is("set(3, 1, 6)", 1);
        edge.is("set(3, 2, 99)", 1).keeps("judge(3, 5, 1)", -1).refuses("judge(3, 5, 2)", -16);

        edge = Edge.of("-11 also w; -12; -13; -14 n; -15 fewer elements; -16 n above 80, no such TERM (counted as -1"
            + " to -6).").full();
        edge.refuses("judge(-1, 1, -1)", -11).refuses("judge(8, 1, -1)", -11).refuses("judge(2, 7, -1)", -11);
        edge.refuses("judge(5, -1, -1)", -11).refuses("judge(2, 1, -1)", -12).refuses("judge(5, 1, -1)", -13);
        edge.refuses("judge(3, 1, -1)", -14).refuses("judge(3, 1, LEAST)", -14).refuses("judge(3, 1, 3)", -15);
        edge.refuses("judge(3, 1, MOST)", -15).refuses("judge(3, 1, 1073741824)", -15).refuses("judge(3, 1, 81)", -15);
        edge.is("set(3, 0, 7)", 1).refuses("judge(3, 1, 1)", -16).refuses("judge(3, 1, 3)", -15)
            .keeps("judge(3, 1, 0)", -1);
        edge.is("set(3, 0, -1)", 1).refuses("judge(3, 1, 1)", -16).is("set(3, 0, 2)", 1).is("set(3, 3, 7)", 1);
        edge.refuses("judge(3, 1, 2)", -16).keeps("judge(3, 1, 1)", -1).is("set(3, 3, 6)", 1)
            .keeps("judge(3, 1, 2)", 1);
        edge.numbers(3, 2, 2, 3).keeps("judge(3, 1, 1)", -1).refuses("judge(3, 1, 2)", -15);
        edge.is("row(3, 1, 0)", 1).keeps("judge(3, 1, 0)", -1).refuses("judge(3, 1, 1)", -15);
    }

    private static void judgeEighty() {
        Edge.of("By the first n twos (0 to 80) of the ROW").terms("a", "b").is("strategy(1, 0, 0)", 0)
            .is("row(0, 0, 160)", 1).keeps("judge(0, 0, 80)", -1).refuses("judge(0, 0, 81)", -15)
            .is("set(0, 159, 1)", 1).keeps("judge(0, 0, 80)", 79).keeps("judge(0, 0, 79)", -1)
            .is("set(0, 159, 2)", 1).refuses("judge(0, 0, 80)", -16).keeps("judge(0, 0, 79)", -1)
            .is("row(0, 0, 159)", 1).refuses("judge(0, 0, 80)", -15).keeps("judge(0, 0, 79)", -1);
    }

    private static void judgeTogether() {
        Edge edge = Edge.of("(REWRITINGS and STRATEGIES begun of all these RUNS count together.)");
        edge.rule("a", "a").terms("a").is("strategy(0, 0, 0)", 0).is("row(0, 0, 160)", 1);
        edge.keeps("judge(0, 0, 40)", -1).keeps("judge(0, 0, 41)", 40).keeps("judge(0, 0, 80)", 40);
        edge.is("strategy(3, 0, 0)", 1).keeps("judge(0, 1, 20)", -1).keeps("judge(0, 1, 21)", 20);
        // Lost ones count, too; each call begins from none.
        edge.is("strategy(2, 0, 0)", 2).is("strategy(3, 0, 2)", 3).is("strategy(5, 3, 0)", 4);
        edge.keeps("judge(0, 4, 40)", -1).keeps("judge(0, 4, 41)", 40).keeps("trial(0, 0, 0)", 0);
        // 15 begun each are 600 with the 40th two; 16 are above 600 with the 38th.
        edge.is("strategy(1, 0, 0)", 5).is("strategy(3, 5, 5)", 6).is("strategy(3, 6, 6)", 7)
            .is("strategy(3, 7, 7)", 8);
        edge.keeps("judge(0, 8, 40)", -1).keeps("judge(0, 8, 41)", 40).is("strategy(5, 8, 0)", 9);
        edge.keeps("judge(0, 9, 37)", -1).keeps("judge(0, 9, 38)", 37).keeps("judge(0, 7, 80)", -1);
    }

    private static void days() {
        Edge edge = Edge.of("DAYS by draws, n (1 to 40): how many TERMS were REWRITTEN. -5 no RULE or no TERM; -6.");
        edge.refuses("days(1)", -5).refuses("days(0)", -5).terms("a").refuses("days(1)", -5).refuses("days(41)", -5);
        edge.rule("a", "a").refuses("days(0)", -6).refuses("days(-1)", -6).refuses("days(41)", -6)
            .refuses("days(MOST)", -6);
        edge.refuses("days(LEAST)", -6).is("days(1)", 1).is("days(40)", 40).is("days(39)", 39).is("drop()", 0);
        edge.refuses("days(1)", -5).refuses("days(0)", -5).refuses("days(41)", -5).terms("b").is("days(40)", 0);
        edge.is("status(0)", 1);
    }

    private static void seed() {
        Edge edge = Edge.of("SEED becomes v: what it was (nothing is refused).");
        long was = 1;
        for (long v : new long[] {0, -1, 1, Integer.MAX_VALUE, Integer.MIN_VALUE, 12345}) {
            edge.is("seed(" + v + ")", was).is("status(5)", v);
            was = v;
        }
        edge.keeps("seed(12345)", 12345);
        for (int k = 11; k < 18; k++) {
            edge.is("status(" + k + ")", 0);
        }
    }

    private static void image() {
        Edge edge = Edge.of("THE IMAGE of all but SHELVES (and THE IMAGE, THE TRACE, REFUSALS, the FAULT) is taken:"
            + " how many TERMS.");
        edge.is("image()", 0).terms("a").is("image()", 1).terms("b", "c").is("restore()", 1).is("node(0, 0)", 'a');
        // The latest one counts, and it stays.
        edge.terms("b", "c").is("image()", 3).is("drop()", 2).is("drop()", 1).is("restore()", 3).is("node(2, 0)", 'c');
        edge.is("drop()", 2).is("restore()", 3);
        // Shelves, the trace, refusals and the fault aren't taken.
        edge.full().is("image()", 7).is("row(0, 2, 1)", 1).is("show(5, 1)", 1).is("run(1, 3)", 7).lay(4, "(")
            .is("term(4)", -6);
        edge.refuses("row(8, 0, 0)", -1).is("restore()", 7).is("holds(0)", 102).is("holds(5)", 1).is("status(6)", 0);
        edge.is("fault()", 0).is("status(11)", 1).is("status(16)", 2).is("element(4, 0)", '(');
        edge.anew();
        for (int t = 0; t < 24; t++) {
            edge.terms("a");
        }
        edge.is("image()", 24).is("drop()", 23).is("restore()", 24);
    }

    private static void restore() {
        Edge edge = Edge.of("All is as THE IMAGE has it; SHELVES with STRATEGIES hold those of these numbers, or"
            + " NOTHING: how many TERMS. -6 there is none.");
        edge.refuses("restore()", -6).terms("a").refuses("restore()", -6);
        edge.full().is("commute('i', false)", 1).is("commute('k', true)", 0).is("seed(9)", 5).does("days(40)")
            .rule("b", "c");
        edge.is("strategy(0, 2, 0)", 7).is("drop()", 6).is("restore()", 5).is("status(0)", 5).is("status(1)", 2);
        edge.is("status(2)", 7).is("status(3)", 1).is("status(4)", 11).is("status(5)", 5).is("status(6)", 1);
        edge.reads(0, "e(u)").reads(1, "u").reads(2, "i(a,e(b))").reads(3, "a").reads(4, "j(v,w)");
        edge.refuses("node(5, 0)", -1).refuses("ruleOf(2, false, 0)", -1).refuses("strategyOf(7, 0)", -5);
        // What is made anew has the numbers that were free, and isn't what was.
        edge.rule("d", "c").is("ruleOf(2, false, 0)", 'd').is("strategy(2, 0, 0)", 7).is("strategyOf(7, 0)", 2);
        edge.is("strategyOf(7, 1)", -1).terms("c").is("node(5, 0)", 'c').is("restore()", 5).is("status(1)", 2);
        // All of an image of no terms, and as many as there may be.
        edge.anew().is("image()", 0).terms("a").rule("a", "b").is("restore()", 0).is("status(1)", 0)
            .refuses("drop()", -6);
        edge.lay(0, "b");
        edge.numbered("term(0)", 0, 23);
        edge.is("image()", 24).is("drop()", 23).is("drop()", 22).is("restore()", 24).is("node(23, 0)", 'b')
            .is("term(0)", -7);
    }

    private static void restoreShelves() {
        Edge.of("SHELVES with STRATEGIES hold those of these numbers, or NOTHING")
            .is("strategy(1, 0, 0)", 0).is("strategy(5, 0, 0)", 1).is("image()", 0).is("strategy(2, 0, 0)", 2)
            .is("strategy(5, 2, 0)", 3).is("show(0, 0)", 1).is("show(1, 1)", 1).is("show(2, 2)", 1).is("show(7, 3)", 1)
            .lay(3, "a").is("row(4, 3, 0)", 1).is("show(6, 2)", 1).is("restore()", 0)
            .is("holds(0)", 0).is("holds(1)", 1).is("holds(2)", -1).is("holds(7)", -1).is("holds(6)", -1)
            .is("holds(3)", 100)
            .is("holds(4)", 103).is("holds(5)", -1).is("element(3, 0)", 'a').refuses("says(2, 0)", -3)
            .is("says(1, 2)", 0)
            // Another one of that number isn't shown by itself.
            .is("strategy(1, 0, 0)", 2).is("holds(2)", -1).is("show(2, 2)", 1).is("says(2, 1)", 99);
        // Of an image without strategies none is shown any more.
        Edge.of("SHELVES with STRATEGIES hold those of these numbers, or NOTHING")
            .is("image()", 0).is("strategy(1, 0, 0)", 0).is("show(0, 0)", 1).is("restore()", 0).is("holds(0)", -1);
    }

    private static void status() {
        Edge edge = Edge.of("How many: 0 TERMS, 1 RULES, 2 STRATEGIES, 3 OPERATORS that COMMUTE (bits; i 0), 4 NODES"
            + " of all TERMS, 5 SEED, 6 REWRITINGS in THE TRACE; 11 to 17: REFUSALS -1 to -7. NONE for another"
            + " what.").full();
        int[] told = {7, 2, 7, 1, 15, 5, 1, -1, -1, -1, -1, 0, 0, 0, 0, 0, 1, 0, -1, -1};
        for (int what = 0; what < 20; what++) {
            edge.keeps("status(" + what + ")", told[what]);
        }
        edge.keeps("status(-1)", -1).keeps("status(MOST)", -1).keeps("status(LEAST)", -1);
        edge.is("commute('l', true)", 0).is("commute('i', false)", 1).keeps("status(3)", 8);
        String[] calls = {"row(8, 0, 0)", "set(2, 0, 0)", "set(5, 0, 0)", "row(0, 0, -1)", "set(0, 4, 0)",
            "row(0, 4, 0)",
            "row(0, 0, 161)"};
        for (int k = 0; k < 7; k++) {
            for (int n = 0; n < 7 - k; n++) {
                edge.is(calls[k], -1 - k);
            }
        }
        for (int k = 0; k < 7; k++) {
            edge.keeps("status(" + (11 + k) + ")", 7 - k + (k == 5 ? 1 : 0));
        }
        edge.is("drop()", 6).is("status(4)", 12).is("drop()", 5).is("status(4)", 11).is("status(0)", 5);
    }
}
