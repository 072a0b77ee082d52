/** What the document tells of refusals, and its details: a test for each sentence. */
public final class EdgesOfRefusalsTest {
    private static final String[] ODD = {"-1", "MOST", "LEAST"};

    public static void main(String[] args) {
        nothingElseChanges();
        theFirstThatFits();
        nobody();
        other();
        nothing();
        below();
        beyond();
        wrong();
        room();
        rightRows();
        rulesKeepTheirTerms();
        variablesOfATerm();
        allWithoutArguments();
        endsWithin();
        whatRepeatTries();
        runWithoutRoom();
        rulesThatAreAlike();
        namesAheadOfRuns();
        Edge.end();
    }

    /** refuses() looks at all else; here each of the seven is counted by itself, as often as it was told. */
    private static void nothingElseChanges() {
        Edge edge = Edge.of("the call answers the number; nothing changes but how many there were").full();
        String[] calls = {"node(7, 0)", "set(2, 0, 1)", "set(5, 0, 1)", "row(0, 0, -1)", "set(0, 4, 1)", "rule(1, 1)",
            "row(0, 0, 161)"};
        for (int k = 0; k < 7; k++) {
            int before = k == 5 ? 1 : 0;
            edge.is("status(" + (11 + k) + ")", before);
            for (int n = 0; n <= k; n++) {
                edge.refuses(calls[k], -1 - k);
            }
            edge.is("status(" + (11 + k) + ")", before + k + 1);
        }
        // What has a number of its own is counted as the one that it is.
        edge.full().refuses("fits(2, 0, 0)", -11).refuses("judge(8, 0, 0)", -11).is("status(11)", 2);
        edge.refuses("judge(2, 0, 0)", -12).is("status(12)", 1).refuses("judge(5, 0, 0)", -13).is("status(13)", 1);
        edge.refuses("judge(3, 0, -1)", -14).is("status(14)", 1).refuses("judge(3, 0, 3)", -15).is("status(15)", 1);
        edge.is("set(3, 0, 7)", 1).refuses("judge(3, 0, 1)", -16).is("status(16)", 2).is("status(17)", 0);
    }

    private static void theFirstThatFits() {
        Edge edge = Edge.of("the first that fits, in this order").full();
        edge.refuses("row(8, 4, -1)", -1).refuses("row(0, 4, -1)", -4).refuses("row(0, 4, 161)", -6);
        edge.refuses("set(2, 9, 1)", -2).refuses("set(5, 9, 1)", -3).refuses("copy(2, 5, 9, 9, -1)", -2);
        edge.refuses("copy(0, 1, 9, 9, -1)", -2).refuses("copy(0, 5, 9, 9, -1)", -3)
            .refuses("copy(0, 0, 9, 9, -1)", -4);
        edge.refuses("bound(0, 3, 'x', 9)", -6).refuses("rewrite(0, 0, 9)", -5).refuses("judge(2, 9, -1)", -11);
        edge.refuses("judge(2, 0, -1)", -12).refuses("judge(5, 0, -1)", -13).refuses("judge(3, 0, 81)", -15);
        edge.anew().refuses("days(41)", -5).refuses("days(0)", -5);
    }

    /** Calls that each name one thing: T a term, R a rule, W a strategy. */
    private static void nobody() {
        Edge edge = Edge.of("-1 NOBODY: no such SHELF, TERM, RULE, STRATEGY, KIND, OPERATOR of two arguments.");
        String[] terms = {"node(T, 0)", "termOf(T, 0)", "path(T, 0)", "same(T, 0)", "same(0, T)", "rule(T, 0)",
            "rule(0, T)",
            "bound(T, 0, 'u', 0)", "bound(0, T, 'u', 0)", "redexes(T)", "rewrite(0, T, 0)", "run(0, T)", "trial(0, T, 0)",
            "replay(T, 0)", "unify(T, 0)", "unify(0, T)"};
        String[] rules = {"ruleOf(R, false, 0)", "ruleOf(R, true, 0)", "rewrite(R, 0, 0)", "strategy(0, R, 0)",
            "overlaps(R, 0)",
            "overlaps(0, R)", "overlap(R, 0, 0, 0)", "overlap(0, R, 0, 0)", "meets(R, 0, 0)", "meets(0, R, 0)"};
        String[] strategies = {"strategy(3, W, 0)", "strategy(3, 0, W)", "strategy(4, W, 0)", "strategy(4, 0, W)",
            "strategy(5, W, 0)", "strategy(13, W, 0)", "run(W, 0)", "trial(W, 0, 0)"};
        nobody(edge, terms, "T", 7);
        nobody(edge, rules, "R", 2);
        nobody(edge, strategies, "W", 7);
        edge.full().refuses("fits(2, 0, 0)", -11).refuses("fits(-1, 0, 0)", -11).refuses("fits(0, 7, 0)", -11)
            .refuses("fits(0, -1, 0)", -11).is("fits(1, 6, 0)", 1);
        edge.refuses("judge(3, 7, 0)", -11).refuses("judge(3, -1, 0)", -11).is("judge(3, 6, 0)", -1);
        edge.full().refuses("show(0, 7)", -1).refuses("show(0, -2)", -1).is("show(0, 6)", 1).is("show(0, -1)", 0);
        edge.refuses("strategy(14, 0, 0)", -1).refuses("strategy(-1, 0, 0)", -1).is("strategy(13, 0, 0)", 7);
        edge.refuses("commute('h', true)", -1).refuses("commute('m', true)", -1).is("commute('i', true)", 1);
        edge.is("commute('l', true)", 0).refuses("row(8, 0, 0)", -1).refuses("row(-1, 0, 0)", -1).is("row(7, 0, 0)", 1);
    }

    private static void nobody(Edge edge, String[] calls, String what, int n) {
        for (String call : calls) {
            edge.full().refuses(call.replace(what, "" + n), -1);
            for (String odd : ODD) {
                edge.refuses(call.replace(what, odd), -1);
            }
            // The last one there is: nobody is missing, whatever else is said of it.
            edge.does(call.replace(what, "" + (n - 1))).is("status(11)", 4);
        }
    }

    private static void other() {
        Edge edge = Edge.of("-2 OTHER: a SHELF that holds a STRATEGY where a ROW is wanted, or the other way about,"
            + " ROWS of two SORTS, a STRATEGY that isn't of the KIND wanted, or one under it.").full();
        edge.refuses("set(2, 0, 0)", -2).refuses("term(2)", -2).refuses("copy(2, 0, 0, 0, 0)", -2);
        edge.refuses("copy(0, 2, 0, 0, 0)", -2).refuses("judge(2, 1, 0)", -12);
        edge.refuses("says(0, 0)", -2).refuses("says(1, 4)", -2);
        edge.refuses("copy(0, 1, 0, 0, 0)", -2).refuses("copy(1, 0, 0, 0, 0)", -2).is("copy(0, 4, 0, 0, 0)", 1);
        edge.refuses("says(2, 1)", -2).refuses("says(2, 3)", -2).is("says(2, 2)", 0).is("says(2, 4)", 2);
        edge.is("row(2, 0, 0)", 1).is("term(2)", -6).refuses("says(2, 2)", -2).is("show(0, 1)", 1)
            .refuses("term(0)", -2);
    }

    private static void nothing() {
        Edge edge = Edge.of("-3 NOTHING: a SHELF that holds NOTHING.").full();
        edge.refuses("set(5, 0, 0)", -3).refuses("term(5)", -3).refuses("copy(5, 0, 0, 0, 0)", -3);
        edge.refuses("copy(0, 5, 0, 0, 0)", -3).refuses("copy(5, 5, 0, 0, 0)", -3).refuses("judge(5, 1, 0)", -13);
        for (int as = 0; as < 5; as++) {
            edge.refuses("says(5, " + as + ")", -3);
        }
        // A row of no elements is something, and a shelf whose strategy is shown no more holds nothing.
        edge.is("row(5, 0, 0)", 1).is("copy(5, 5, 0, 0, 0)", 1).is("judge(5, 1, 0)", -1).is("show(2, -1)", 0);
        edge.refuses("says(2, 0)", -3).is("show(5, -1)", 0).refuses("copy(5, 5, 0, 0, 0)", -3);
    }

    private static void below() {
        Edge.of("-4 BELOW: a size below 0.").full()
            .refuses("row(5, 0, -1)", -4).refuses("row(5, 0, LEAST)", -4).is("row(5, 0, 0)", 1)
            .refuses("copy(0, 0, 0, 0, -1)", -4).refuses("copy(0, 0, 0, 0, LEAST)", -4).is("copy(0, 0, 0, 0, 0)", 1)
            .refuses("judge(3, 1, -1)", -14).refuses("judge(3, 1, LEAST)", -14).is("judge(3, 1, 0)", -1);
    }

    private static void beyond() {
        Edge.of("-5 BEYOND: an element that isn't there; nothing such to be told of.").full()
            .refuses("set(0, 4, 1)", -5).refuses("set(0, -1, 1)", -5).is("set(0, 3, 1)", 1).is("set(0, 0, 1)", 1)
            .refuses("copy(0, 0, 0, 1, 4)", -5).refuses("copy(0, 0, 1, 0, 4)", -5).is("copy(0, 0, 0, 0, 4)", 1)
            .refuses("judge(3, 1, 3)", -15).is("judge(3, 1, 2)", -1)
            .refuses("node(2, 4)", -5).refuses("node(2, -1)", -5).is("node(2, 3)", 'b')
            .refuses("path(2, 4)", -5).refuses("path(2, -1)", -5).is("path(2, 3)", 7)
            .refuses("termOf(2, 4)", -5).refuses("termOf(2, -1)", -5).is("termOf(2, 3)", 0)
            .refuses("ruleOf(0, false, 2)", -5).refuses("ruleOf(0, true, 1)", -5).refuses("ruleOf(0, true, -1)", -5)
            .refuses("strategyOf(7, 0)", -5).refuses("strategyOf(0, 3)", -5).refuses("trial(1, 0, 3)", -5)
            .refuses("overlap(0, 0, 0, 0)", -5).refuses("meets(0, 0, 0)", -5).refuses("replay(2, 2)", -5)
            .anew().refuses("days(1)", -5);
    }

    private static void wrong() {
        Edge.of("-6 WRONG: a number that may not be, a FAULT, what can't be as things stand.").full()
            .refuses("row(0, 4, 0)", -6).refuses("row(0, -1, 0)", -6).is("row(0, 3, 0)", 1)
            .refuses("days(0)", -6).refuses("days(41)", -6)
            .refuses("term(4)", -6).refuses("rule(1, 0)", -6).refuses("rule(0, 4)", -6).refuses("rewrite(0, 4, 0)", -6)
            .refuses("bound(0, 4, 'u', 0)", -6).refuses("run(2, 0)", -6).refuses("unify(0, 4)", -6)
            .is("set(3, 3, 7)", 1).refuses("judge(3, 1, 2)", -16).does("days(1)", "days(40)").is("status(16)", 13)
            .anew().refuses("restore()", -6).refuses("drop()", -6);
    }

    private static void room() {
        Edge edge = Edge.of("-7 ROOM: more than may be.").full();
        edge.refuses("row(0, 0, 161)", -7).refuses("row(0, 0, MOST)", -7).is("row(0, 0, 160)", 1)
            .refuses("run(6, 0)", -7);
        edge.numbered("rule(0, 1)", 2, 11);
        edge.refuses("rule(0, 1)", -7);
        edge.numbered("strategy(1, 0, 0)", 7, 23);
        edge.refuses("strategy(1, 0, 0)", -7);
        edge.numbered("replay(3, 0)", 7, 23);
        edge.refuses("replay(3, 0)", -7);
    }

    private static void rightRows() {
        Edge edge = Edge.of("Behind a right ROW there is no FAULT; a FAULT is looked at ahead of the room.");
        edge.lay(0, "a").lay(1, "e(").is("term(1)", -6).is("fault()", 2).is("term(0)", 0).is("fault()", -1);
        edge.numbered("term(0)", 1, 23);
        edge.is("term(1)", -6).is("fault()", 2).is("status(16)", 2).is("status(17)", 0);
        edge.is("term(0)", -7).is("fault()", -1).is("status(16)", 2).is("status(17)", 1);
    }

    private static void rulesKeepTheirTerms() {
        Edge.of("RULES keep their TERMS when these are dropped.")
            .terms("i(u,e(v))", "f(v)").is("rule(0, 1)", 0).is("rule(0, 0)", 1).does("drop()", "drop()")
            .is("status(0)", 0)
            .is("ruleOf(0, false, 0)", 'i').is("ruleOf(0, false, 3)", 'v').is("ruleOf(0, true, 1)", 'v')
            .terms("l(c,c)", "i(a,e(b))").is("ruleOf(0, false, 0)", 'i').is("ruleOf(0, true, 0)", 'f')
            .is("rewrite(0, 1, 0)", 2).reads(2, "f(b)").is("rewrite(1, 1, 0)", 3).reads(3, "i(a,e(b))");
    }

    private static void variablesOfATerm() {
        Edge.of("VARIABLES of a TERM are like CONSTANTS in a MATCH.")
            .terms("i(u,a)", "i(v,a)", "i(u,v)", "e(a)", "e(u)", "j(u,u)", "j(v,w)", "j(v,v)")
            .is("bound(0, 1, 'u', 0)", 'v').refuses("bound(0, 2, 'u', 0)", -6).refuses("bound(3, 4, 'u', 0)", -6)
            .is("bound(4, 3, 'u', 0)", 'a').is("bound(4, 4, 'u', 0)", 'u').refuses("bound(5, 6, 'u', 0)", -6)
            .is("bound(5, 7, 'u', 0)", 'v')
            .rule("l(u,v)", "l(v,u)").terms("l(v,u)").is("rewrite(0, 8, 0)", 9).reads(9, "l(u,v)")
            .is("fits(0, 8, -1)", 1);
    }

    private static void allWithoutArguments() {
        Edge.of("ALL of a TERM without arguments makes it itself.")
            .is("strategy(2, 0, 0)", 0).is("strategy(6, 0, 0)", 1).makes(1, "a", "a", "").makes(1, "u", "u", "")
            .fails(1, "e(a)")
            // So UP, DOWN and INNERMOST go on from there; ONE, SOME and ONCE don't.
            .is("strategy(1, 0, 0)", 2).is("strategy(9, 2, 0)", 3).is("strategy(10, 2, 0)", 4)
            .is("strategy(12, 0, 0)", 5)
            .makes(3, "a", "a", "").makes(4, "a", "a", "").makes(5, "a", "a", "")
            .is("strategy(7, 2, 0)", 6).is("strategy(8, 2, 0)", 7).is("strategy(11, 0, 0)", 8)
            .fails(6, "a").fails(7, "a").fails(8, "a");
    }

    private static void endsWithin() {
        Edge.of("A RUN that ENDS does so within ELSE and TRY, too.")
            .is("strategy(1, 0, 0)", 0).is("strategy(13, 0, 0)", 1).is("strategy(5, 1, 0)", 2)
            .is("strategy(4, 1, 0)", 3)
            .ends(1, "a").ends(2, "a").ends(3, "a")
            // The same by rewritings and by nodes, and within what passes over what fails.
            .rule("a", "e(a)").is("strategy(0, 0, 0)", 4).is("strategy(11, 4, 0)", 5).is("strategy(13, 5, 0)", 6)
            .is("strategy(5, 6, 0)", 7).is("strategy(4, 6, 0)", 8).ends(7, "a").ends(8, "a")
            .is("strategy(8, 1, 0)", 9).is("strategy(7, 1, 0)", 10).is("strategy(11, 1, 0)", 11)
            .is("strategy(12, 1, 0)", 12)
            .is("strategy(13, 1, 0)", 13).ends(9, "i(a,b)").ends(10, "i(a,b)").ends(11, "a").ends(12, "a")
            .ends(13, "a");
    }

    /** On e(e(a)) REPEAT begins itself and three tries: with 511, 63, 15 and 3 ahead and four that join them, 600. */
    private static void whatRepeatTries() {
        Edge edge = Edge.of("Each beginning of what REPEAT tries counts.");
        edge.rule("e(u)", "u").terms("e(e(a))", "e(e(e(a)))").is("strategy(1, 0, 0)", 0);
        edge.doubled(8);
        edge.is("strategy(0, 0, 0)", 9).is("strategy(13, 9, 0)", 10).is("strategy(3, 8, 10)", 11)
            .is("strategy(3, 5, 11)", 12);
        edge.is("strategy(3, 3, 12)", 13).is("strategy(3, 1, 13)", 14);
        edge.is("trial(14, 0, 0)", 0).is("trial(14, 0, 2)", 2).is("trial(14, 1, 0)", 2);
    }

    private static void runWithoutRoom() {
        Edge edge = Edge.of("A run() without room leaves THE TRACE as it was.");
        edge.rule("a", "b").rule("b", "c").terms("e(a)", "b").is("strategy(0, 0, 0)", 0).is("strategy(6, 0, 0)", 1);
        edge.is("strategy(0, 1, 0)", 2).is("run(1, 0)", 2);
        edge.numbered("replay(1, 0)", 3, 23);
        edge.refuses("run(2, 1)", -7).is("status(6)", 1).is("trace(0)", 0).is("tracePath(0)", 1);
        edge.is("drop()", 23).is("run(2, 1)", 23).is("trace(0)", 1).is("tracePath(0)", 0);
    }

    private static void rulesThatAreAlike() {
        Edge.of("Of two RULES that are alike the whole counts among the OVERLAPS, too.")
            .rule("e(u)", "f(u)").rule("e(u)", "f(u)").rule("e(x)", "g(x)")
            .is("overlaps(0, 0)", 0).is("overlaps(0, 1)", 1).is("overlaps(1, 0)", 1).is("overlaps(1, 1)", 0)
            .is("overlaps(0, 2)", 1)
            .is("overlap(0, 1, 0, 0)", 0).reads(0, "e(u)").is("overlap(0, 1, 0, 1)", 1).reads(1, "f(u)")
            .is("overlap(0, 1, 0, 2)", 2).reads(2, "f(u)").is("overlap(0, 2, 0, 2)", 3).reads(3, "g(u)")
            .is("meets(0, 1, 0)", 1).is("meets(0, 2, 0)", 0).refuses("meets(0, 0, 0)", -5);
    }

    private static void namesAheadOfRuns() {
        Edge.of("All TERMS that a told ROW names are looked at ahead of the RUNS.")
            .terms("a", "b").is("strategy(1, 0, 0)", 0).is("strategy(2, 0, 0)", 1).numbers(0, 0, 1, 0, 2)
            // The first two alone would be told; with the second two, there is no such term.
            .is("judge(0, 0, 1)", 0).refuses("judge(0, 0, 2)", -16).refuses("judge(0, 1, 2)", -16)
            .is("set(0, 3, -1)", 1).refuses("judge(0, 0, 2)", -16).is("set(0, 3, 1)", 1).is("judge(0, 0, 2)", 0)
            .is("set(0, 2, 2)", 1).refuses("judge(0, 0, 2)", -16).is("judge(0, 0, 1)", 0);
    }
}
