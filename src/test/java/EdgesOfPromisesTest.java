/** Promises 1 to 22: the edges of each, the last value that is right and the first one that isn't. */
public final class EdgesOfPromisesTest {
    public static void main(String[] args) {
        newObject();
        row();
        set();
        copy();
        copyAsAhead();
        element();
        show();
        holds();
        says();
        saysHowMany();
        term();
        fault();
        drop();
        commute();
        node();
        termOf();
        path();
        same();
        rule();
        ruleOf();
        bound();
        fits();
        redexes();
        rewrite();
        Edge.end();
    }

    private static void newObject() {
        Edge edge = Edge.of("No TERMS, no RULES, no STRATEGIES.");
        int[] first = {0, 0, 0, 0, 0, 1, 0};
        for (int what = 0; what < 7; what++) {
            edge.is("status(" + what + ")", first[what]);
        }
        for (int k = 11; k < 18; k++) {
            edge.is("status(" + k + ")", 0);
        }
        edge.keeps("fault()", -1).keeps("trace(0)", -1).keeps("tracePath(0)", -1).keeps("element(0, 0)", 0);
        edge.refuses("node(0, 0)", -1).refuses("ruleOf(0, false, 0)", -1).refuses("strategyOf(0, 0)", -5);
        edge.refuses("drop()", -6).refuses("restore()", -6).refuses("days(1)", -5).refuses("show(0, 0)", -1);
        // It is told of one object, not of the class.
        edge.full().anew().is("status(0)", 0).is("status(1)", 0).is("status(2)", 0).is("holds(0)", -1);
    }

    private static void row() {
        Edge.of("SHELF s holds a new ROW: 1. -1; -4; -6 SORT; -7 n above 160.").full()
            .refuses("row(-1, 4, -1)", -1).refuses("row(8, 4, -1)", -1).refuses("row(0, 4, -1)", -4)
            .refuses("row(0, -1, -1)", -4)
            .refuses("row(0, 0, -1)", -4).refuses("row(0, 4, 161)", -6).refuses("row(0, -1, 0)", -6)
            .refuses("row(0, 4, 0)", -6)
            .refuses("row(0, 0, 161)", -7).refuses("row(0, 3, MOST)", -7).is("element(0, 0)", 'e')
            .is("row(0, 0, 0)", 1).is("holds(0)", 100).is("row(7, 3, 160)", 1).is("holds(7)", 103)
            // It may stand where a strategy was shown, and where nothing was.
            .is("row(2, 1, 2)", 1).is("holds(2)", 101).is("element(2, 1)", 0).is("row(5, 2, 1)", 1).is("holds(5)", 102);
    }

    private static void set() {
        Edge.of("Element i of the ROW becomes v: 1. -1; -2; -3; -5.").full()
            .refuses("set(-1, 0, 9)", -1).refuses("set(8, -1, 9)", -1).refuses("set(2, -1, 9)", -2)
            .refuses("set(5, -1, 9)", -3)
            .refuses("set(0, -1, 9)", -5).refuses("set(0, 4, 9)", -5).refuses("set(0, MOST, 9)", -5)
            .refuses("set(0, LEAST, 9)", -5)
            .is("set(0, 3, 9)", 1).is("element(0, 3)", 9).is("set(0, 0, 8)", 1).is("element(0, 0)", 8)
            .is("element(0, 1)", '(').is("element(0, 2)", 'b').is("element(1, 0)", 5).is("element(4, 0)", 'e')
            .is("row(0, 0, 0)", 1).refuses("set(0, 0, 9)", -5)
            .is("row(6, 3, 160)", 1).is("set(6, 159, 7)", 1).is("element(6, 159)", 7).refuses("set(6, 160, 7)", -5)
            .is("element(7, 0)", 'b');
    }

    private static void copy() {
        Edge.of("Elements i, i + 1, .. of the ROW in SHELF p, n of them, come to elements j, j + 1, .. of that in q"
            + " (as they were ahead): 1. -1; -2 also of two SORTS (when both hold something); -3 either; -4 n; -5 i"
            + " or j below 0, or an end that isn't there.").full()
            .refuses("copy(-1, 2, 9, 9, -1)", -1).refuses("copy(8, 2, 9, 9, -1)", -1)
            .refuses("copy(2, -1, 9, 9, -1)", -1)
            .refuses("copy(2, 8, 9, 9, -1)", -1).refuses("copy(2, 5, 9, 9, -1)", -2).refuses("copy(5, 2, 9, 9, -1)", -2)
            .refuses("copy(2, 2, 0, 0, 0)", -2).refuses("copy(0, 1, 9, 9, -1)", -2).refuses("copy(1, 6, 0, 0, 1)", -2)
            .refuses("copy(0, 5, 9, 9, -1)", -3).refuses("copy(5, 0, 9, 9, -1)", -3).refuses("copy(5, 5, 0, 0, 0)", -3)
            .refuses("copy(0, 4, -1, -1, -1)", -4).refuses("copy(0, 4, -1, 0, 1)", -5)
            .refuses("copy(0, 4, 0, -1, 1)", -5)
            .refuses("copy(0, 4, 4, 0, 1)", -5).refuses("copy(0, 4, 1, 0, 4)", -5).refuses("copy(4, 0, 0, 4, 1)", -5)
            .refuses("copy(4, 0, 0, 0, 4)", -5).refuses("copy(0, 4, 0, 0, 4)", -5).refuses("copy(0, 4, 5, 0, 0)", -5)
            .refuses("copy(0, 4, 0, 4, 0)", -5).refuses("copy(0, 4, -1, 0, 0)", -5).refuses("copy(0, 4, 0, -1, 0)", -5)
            .refuses("copy(0, 0, 1, 1, MOST)", -5).refuses("copy(0, 0, MOST, 0, 1)", -5)
            .refuses("copy(0, 0, 0, MOST, 1)", -5)
            .refuses("copy(0, 0, MOST, MOST, MOST)", -5)
            .is("copy(0, 4, 4, 3, 0)", 1).is("copy(0, 4, 3, 2, 1)", 1).is("element(4, 2)", ')').is("element(4, 1)", '(')
            .is("copy(0, 4, 0, 0, 3)", 1).is("element(4, 2)", 'b').is("element(0, 3)", ')').is("element(7, 0)", 'b');
    }

    private static void copyAsAhead() {
        Edge edge = Edge.of("(as they were ahead)");
        int[][] moves = {{0, 1, 4}, {1, 0, 4}, {0, 1, 2}, {2, 1, 2}, {0, 2, 1}, {2, 0, 3}, {0, 4, 1}, {1, 1, 3}, {0, 0,
            5}};
        for (int[] move : moves) {
            edge.anew().numbers(3, 10, 11, 12, 13, 14);
            edge.is("copy(3, 3, " + move[0] + ", " + move[1] + ", " + move[2] + ")", 1);
            for (int i = 0; i < 5; i++) {
                boolean isCopied = i >= move[1] && i < move[1] + move[2];
                edge.is("element(3, " + i + ")", 10 + (isCopied ? i - move[1] + move[0] : i));
            }
        }
        // From one shelf to another, up and down, the last element of the one and the first of the other beside them.
        edge.anew().is("row(3, 3, 160)", 1).is("row(4, 3, 160)", 1).is("set(3, 159, 5)", 1).is("set(4, 0, 6)", 1);
        edge.is("copy(3, 4, 1, 1, 159)", 1).is("element(4, 159)", 5).is("element(4, 0)", 6).is("element(3, 159)", 5);
        edge.is("copy(4, 3, 0, 0, 160)", 1).is("element(3, 0)", 6).is("element(3, 159)", 5).is("element(4, 0)", 6);
    }

    private static void element() {
        Edge edge = Edge.of("Element i of the ROW; 0 if there is none (nothing is refused).").full();
        edge.keeps("element(0, 0)", 'e').keeps("element(0, 3)", ')').keeps("element(0, 4)", 0)
            .keeps("element(0, -1)", 0);
        edge.keeps("element(1, -1)", 0).keeps("element(0, 160)", 0).keeps("element(0, MOST)", 0)
            .keeps("element(0, LEAST)", 0);
        edge.keeps("element(2, 0)", 0).keeps("element(5, 0)", 0).keeps("element(8, 0)", 0).keeps("element(-1, 0)", 0);
        edge.keeps("element(-1, 161)", 0).is("row(6, 3, 160)", 1).is("set(6, 159, " + Long.MIN_VALUE + ")", 1);
        edge.keeps("element(6, 159)", Long.MIN_VALUE).keeps("element(6, 160)", 0).is("row(6, 3, 159)", 1)
            .keeps("element(6, 159)", 0);
        // What stood behind a shorter row isn't there any more.
        edge.is("row(0, 0, 2)", 1).keeps("element(0, 0)", 0).keeps("element(0, 3)", 0).is("row(0, 0, 4)", 1)
            .keeps("element(0, 3)", 0);
    }

    private static void show() {
        Edge.of("SHELF s holds one of the STRATEGIES, or NOTHING (w NONE): 1, 0. -1.").full()
            .refuses("show(-1, 0)", -1).refuses("show(8, 0)", -1).refuses("show(-1, -1)", -1).refuses("show(8, -1)", -1)
            .refuses("show(0, 7)", -1).refuses("show(0, -2)", -1).refuses("show(0, MOST)", -1)
            .refuses("show(0, 100)", -1)
            .is("show(0, 6)", 1).is("holds(0)", 6).is("show(7, 0)", 1).is("holds(7)", 0).is("show(5, 3)", 1)
            .is("holds(5)", 3)
            .is("show(2, 1)", 1).is("holds(2)", 1)
            .is("show(0, -1)", 0).is("holds(0)", -1).is("show(0, -1)", 0).is("show(7, -1)", 0).is("show(1, -1)", 0)
            .is("holds(1)", -1).is("element(1, 0)", 0);
    }

    private static void holds() {
        Edge edge = Edge.of("What SHELF s holds: NONE NOTHING, or no such SHELF; a STRATEGY's number; 100 and the"
            + " SORT of a ROW.").full();
        edge.keeps("holds(-1)", -1).keeps("holds(8)", -1).keeps("holds(MOST)", -1).keeps("holds(LEAST)", -1);
        int[] held = {100, 103, 5, 101, 100, -1, 102, 100};
        for (int s = 0; s < 8; s++) {
            edge.keeps("holds(" + s + ")", held[s]);
        }
        edge.numbered("strategy(1, 0, 0)", 7, 23);
        edge.is("show(0, 23)", 1).keeps("holds(0)", 23).is("show(0, 0)", 1).keeps("holds(0)", 0);
    }

    private static void says() {
        Edge edge = Edge.of("What the STRATEGY in SHELF s, taken for one of a sort (as), says: 0 any: its KIND; 1 a"
            + " LEAF (KINDS 0 to 2): its RULE, 99 (KEEP), 98 (FAIL); 2 OVER ONE (5 to 13): its s; 3 OVER TWO (3, 4):"
            + " 100 times its s, and its t; 4 a WALK (6 to 12)");
        edge.full().refuses("says(-1, 0)", -1).refuses("says(8, 0)", -1).refuses("says(2, -1)", -1)
            .refuses("says(2, 5)", -1);
        edge.refuses("says(0, 5)", -1).refuses("says(5, -1)", -1).refuses("says(0, 0)", -2).refuses("says(0, 4)", -2);
        edge.refuses("says(5, 0)", -3).refuses("says(5, 4)", -3);
        edge.anew().rule("a", "b").rule("b", "c").is("strategy(1, 7, 7)", 0);
        for (int kind = 0; kind < 14; kind++) {
            edge.is("strategy(" + kind + ", " + (kind == 0 ? 1 : kind) + ", 0)", kind + 1)
                .is("show(3, " + (kind + 1) + ")", 1);
            int leaf = kind == 0 ? 1 : kind == 1 ? 99 : 98;
            edge.is("says(3, 0)", kind);
            says(edge, 1, kind <= 2, leaf);
            says(edge, 2, kind >= 5, kind);
            says(edge, 3, kind == 3 || kind == 4, 100 * kind);
            if (kind < 6 || kind > 12) {
                edge.is("says(3, 4)", -2);
            }
        }
        edge.is("strategy(3, 14, 13)", 15).is("show(3, 15)", 1).is("says(3, 3)", 1413);
        // The strategies of one object end at 23.
        edge.numbered("strategy(1, 0, 0)", 16, 23);
        edge.anew().is("strategy(1, 0, 0)", 0);
        for (int w = 1; w < 24; w++) {
            edge.is("strategy(4, " + (w - 1) + ", " + (w - 1) + ")", w);
        }
        edge.is("show(3, 23)", 1).is("says(3, 3)", 2222);
    }

    private static void says(Edge edge, int as, boolean is, int want) {
        if (is) {
            edge.keeps("says(3, " + as + ")", want);
        } else {
            edge.refuses("says(3, " + as + ")", -2);
        }
    }

    /** THEN over trees of 511, 255, 127, 63, 31, 3 and 1 is 997 strategies; a walk over it 998. */
    private static void saysHowMany() {
        Edge edge = Edge.of("how many STRATEGIES it is of, itself and all it is over (each as often as it comes;"
            + " more than 1,000 is told as 1,000). -1 SHELF, as; -2 also one that isn't such; -3.");
        edge.is("strategy(1, 0, 0)", 0);
        edge.doubled(8);
        edge.is("strategy(3, 8, 7)", 9).is("strategy(4, 9, 6)", 10).is("strategy(3, 10, 5)", 11)
            .is("strategy(3, 11, 4)", 12);
        edge.is("strategy(4, 12, 1)", 13).is("strategy(3, 13, 0)", 14).is("strategy(6, 14, 0)", 15)
            .is("strategy(12, 15, 0)", 16);
        edge.is("strategy(9, 16, 0)", 17).is("strategy(10, 17, 0)", 18).is("strategy(5, 18, 0)", 19)
            .is("strategy(8, 19, 0)", 20);
        edge.is("strategy(3, 20, 20)", 21).is("strategy(7, 21, 0)", 22).is("strategy(11, 0, 0)", 23);
        int[] many = {998, 999, 1000, 1000, -2, 1000, -2, 1000, 2};
        for (int w = 15; w < 24; w++) {
            edge.is("show(0, " + w + ")", 1).is("says(0, 4)", many[w - 15]);
        }
    }

    private static void term() {
        Edge edge = Edge.of("A new TERM by the ROW in SHELF s: its number. -1; -2; -3; -6 a FAULT; -7.").full();
        edge.refuses("term(-1)", -1).refuses("term(8)", -1).refuses("term(2)", -2).refuses("term(5)", -3);
        edge.is("term(4)", -6).is("status(16)", 2).is("row(1, 3, 0)", 1).is("term(1)", -6).is("term(0)", 7)
            .reads(7, "e(b)");
        edge.numbered("term(0)", 8, 23);
        edge.is("term(4)", -6).is("term(0)", -7).is("status(17)", 1).refuses("term(5)", -3).refuses("term(2)", -2);
        edge.refuses("term(8)", -1).is("status(0)", 24).is("element(0, 0)", 'e').is("drop()", 23).is("term(0)", 23);
        for (int sort = 0; sort < 4; sort++) {
            edge.is("drop()", 23).is("row(6, " + sort + ", 1)", 1).is("set(6, 0, 'z')", 1).is("term(6)", 23)
                .reads(23, "z");
        }
    }

    private static void fault() {
        Edge edge = Edge.of("The FAULT of the latest term() that came to a ROW; NONE: there was none, or none yet.");
        edge.keeps("fault()", -1).lay(0, "e(").lay(1, "a").lay(2, "ab").is("strategy(1, 0, 0)", 0).is("show(3, 0)", 1);
        edge.is("term(0)", -6).keeps("fault()", 2);
        // These came to no row.
        edge.refuses("term(4)", -3).refuses("term(3)", -2).refuses("term(8)", -1).refuses("term(-1)", -1)
            .keeps("fault()", 2);
        edge.is("term(2)", -6).keeps("fault()", 1).is("term(1)", 0).keeps("fault()", -1).is("term(0)", -6)
            .keeps("fault()", 2);
        edge.is("replay(0, 0)", 1).is("image()", 2).is("drop()", 1).is("restore()", 2).keeps("fault()", 2);
        edge.numbered("replay(0, 0)", 2, 23);
        edge.is("fault()", 2).is("term(1)", -7).is("fault()", -1).is("term(2)", -6).is("fault()", 1);
    }

    private static void drop() {
        Edge edge = Edge.of("The last TERM is no more: how many there are. -6 there is none.");
        edge.refuses("drop()", -6).terms("a", "e(b)", "c").is("drop()", 2).refuses("node(2, 0)", -1).is("status(4)", 3);
        edge.is("drop()", 1).is("node(0, 0)", 'a').is("drop()", 0).refuses("drop()", -6).refuses("node(0, 0)", -1);
        edge.terms("d").is("node(0, 0)", 'd').is("drop()", 0).refuses("drop()", -6).is("status(4)", 0);
    }

    private static void commute() {
        Edge edge = Edge.of("An OPERATOR of two arguments (sign: i is 105) COMMUTES, or doesn't: whether it did (1,"
            + " 0). -1.");
        for (int sign = 105; sign < 109; sign++) {
            edge.keeps("commute(" + sign + ", false)", 0).is("commute(" + sign + ", true)", 0);
            edge.is("status(3)", (2 << (sign - 105)) - 1).keeps("commute(" + sign + ", true)", 1);
        }
        edge.refuses("commute(104, true)", -1).refuses("commute(109, true)", -1).refuses("commute(97, true)", -1);
        edge.refuses("commute(117, true)", -1).refuses("commute(0, true)", -1).refuses("commute(3, true)", -1);
        edge.refuses("commute(MOST, true)", -1).refuses("commute(LEAST, true)", -1).refuses("commute(361, true)", -1);
        for (int sign = 105; sign < 109; sign++) {
            edge.is("commute(" + sign + ", false)", 1).is("status(3)", 16 - (2 << (sign - 105)));
        }
        edge.refuses("commute(104, false)", -1).refuses("commute(109, false)", -1);
    }

    private static void node() {
        Edge.of("The SIGN of a NODE (a is 97). -1; -5.").full()
            .refuses("node(-1, 9)", -1).refuses("node(7, 9)", -1).refuses("node(7, 0)", -1).refuses("node(24, 0)", -1)
            .refuses("node(2, -1)", -5).refuses("node(2, 4)", -5).refuses("node(2, MOST)", -5)
            .refuses("node(2, LEAST)", -5)
            .refuses("node(3, 1)", -5).keeps("node(2, 0)", 105).keeps("node(2, 3)", 98).keeps("node(3, 0)", 97)
            .keeps("node(4, 2)", 119).keeps("node(6, 2)", 98);
    }

    private static void termOf() {
        Edge edge = Edge.of("Of one: 0 how many NODES, 1 how deep (1 for one NODE), 2 VARIABLES (bits; u 0, z 5), 3"
            + " whether no RULE FITS at any NODE (1, 0). -1; -5 another what.").full();
        edge.refuses("termOf(7, 4)", -1).refuses("termOf(-1, 4)", -1).refuses("termOf(7, 0)", -1)
            .refuses("termOf(0, 4)", -5);
        edge.refuses("termOf(0, -1)", -5).refuses("termOf(0, MOST)", -5);
        int[][] told = {{2, 2, 1, 0}, {1, 1, 1, 1}, {4, 3, 0, 0}, {1, 1, 0, 0}, {3, 2, 6, 1}, {1, 1, 0, 1}, {3, 2, 0,
            0}};
        for (int t = 0; t < 7; t++) {
            for (int what = 0; what < 4; what++) {
                edge.keeps("termOf(" + t + ", " + what + ")", told[t][what]);
            }
        }
        edge.anew().terms("k(k(u,v),k(w,k(x,k(y,z))))", "z", Edge.over(39, "e", "u"), "i(i(i(a,b),c),e(y))");
        edge.is("termOf(0, 2)", 63).is("termOf(1, 2)", 32).is("termOf(2, 1)", 40).is("termOf(2, 0)", 40)
            .is("termOf(3, 1)", 4);
        edge.is("termOf(0, 1)", 5).is("termOf(2, 3)", 1).rule("e(e(u))", "u").is("termOf(2, 3)", 0)
            .is("termOf(3, 3)", 1);
    }

    private static void path() {
        Edge.of("The PATH to a NODE. -1; -5.").full()
            .refuses("path(7, 9)", -1).refuses("path(-1, 9)", -1).refuses("path(7, 0)", -1).refuses("path(2, -1)", -5)
            .refuses("path(2, 4)", -5).refuses("path(2, MOST)", -5).refuses("path(2, LEAST)", -5)
            .refuses("path(3, 1)", -5)
            .keeps("path(2, 0)", 0).keeps("path(2, 1)", 1).keeps("path(2, 2)", 2).keeps("path(2, 3)", 7)
            .keeps("path(3, 0)", 0);
    }

    private static void same() {
        Edge.of("0 SAME, 1 SAME BUT FOR ORDER, 2 neither. -1.").full()
            .refuses("same(7, 0)", -1).refuses("same(0, 7)", -1).refuses("same(-1, 0)", -1).refuses("same(0, -1)", -1)
            .keeps("same(6, 6)", 0).keeps("same(0, 6)", 2).terms("i(b,a)", "i(a,b)").keeps("same(6, 7)", 1)
            .keeps("same(6, 8)", 0)
            .keeps("same(7, 6)", 1).is("commute('i', false)", 1).keeps("same(6, 7)", 2).keeps("same(6, 8)", 0);
    }

    private static void rule() {
        Edge edge = Edge.of("A new RULE of two TERMS: its number. -1; -6 one that may not be; -7.").full();
        edge.refuses("rule(7, 0)", -1).refuses("rule(1, 7)", -1).refuses("rule(-1, 4)", -1).refuses("rule(1, -1)", -1);
        edge.refuses("rule(1, 1)", -6).refuses("rule(1, 3)", -6).refuses("rule(0, 4)", -6).refuses("rule(3, 1)", -6);
        edge.is("rule(0, 3)", 2).is("ruleOf(2, true, 0)", 'a').is("rule(4, 4)", 3);
        edge.numbered("rule(6, 3)", 4, 11);
        edge.refuses("rule(7, 0)", -1).refuses("rule(1, 1)", -6).refuses("rule(0, 4)", -6).refuses("rule(0, 1)", -7);
    }

    private static void ruleOf() {
        Edge.of("The SIGN of a NODE of LEFT or RIGHT. -1; -5.").full()
            .refuses("ruleOf(2, false, 9)", -1).refuses("ruleOf(-1, true, 9)", -1).refuses("ruleOf(12, true, 0)", -1)
            .refuses("ruleOf(0, false, -1)", -5).refuses("ruleOf(0, false, 2)", -5).refuses("ruleOf(0, true, -1)", -5)
            .refuses("ruleOf(0, true, 1)", -5).refuses("ruleOf(0, true, MOST)", -5)
            .refuses("ruleOf(0, false, LEAST)", -5)
            .keeps("ruleOf(0, false, 0)", 'e').keeps("ruleOf(0, false, 1)", 'u').keeps("ruleOf(0, true, 0)", 'u')
            .keeps("ruleOf(1, false, 0)", 'a').keeps("ruleOf(1, true, 0)", 'b');
    }

    private static void bound() {
        Edge edge = Edge.of("By the MATCH of a PATTERN p and a TERM t: the SIGN of the i-th NODE of what a VARIABLE"
            + " (v: u is 117) is bound to. -1; -5 no such VARIABLE in p, no such NODE; -6 they don't MATCH (ahead of"
            + " -5).").full();
        edge.refuses("bound(7, 0, 'u', 0)", -1).refuses("bound(0, 7, 'u', 0)", -1).refuses("bound(-1, 0, 116, 9)", -1);
        edge.refuses("bound(0, -1, 116, 9)", -1).refuses("bound(0, 6, 'u', 0)", -6).refuses("bound(0, 6, 'v', 9)", -6);
        edge.terms("i(u,z)").refuses("bound(7, 2, 'v', 0)", -5).refuses("bound(7, 2, 'y', 0)", -5);
        edge.refuses("bound(7, 2, 116, 0)", -5).refuses("bound(7, 2, 123, 0)", -5).refuses("bound(7, 2, 'a', 0)", -5);
        edge.refuses("bound(7, 2, 0, 0)", -5).refuses("bound(7, 2, MOST, 0)", -5).refuses("bound(7, 2, LEAST, 0)", -5);
        edge.keeps("bound(7, 2, 117, 0)", 'a').refuses("bound(7, 2, 117, 1)", -5).refuses("bound(7, 2, 117, -1)", -5);
        edge.keeps("bound(7, 2, 122, 0)", 'e').keeps("bound(7, 2, 122, 1)", 'b').refuses("bound(7, 2, 122, 2)", -5);
        edge.refuses("bound(3, 3, 'u', 0)", -5).refuses("bound(3, 5, 'u', 0)", -6).keeps("bound(1, 2, 'u', 3)", 'b');
        edge.refuses("bound(1, 2, 'u', 4)", -5);
    }

    private static void fits() {
        Edge edge = Edge.of("How many NODES a RULE FITS at (i NONE), the i-th of them; NONE: no such. -11 (counted"
            + " as -1).").full();
        edge.terms("i(e(a),e(e(b)))").keeps("fits(0, 7, -1)", 3).keeps("fits(0, 7, 0)", 1).keeps("fits(0, 7, 1)", 3);
        edge.keeps("fits(0, 7, 2)", 4).keeps("fits(0, 7, 3)", -1).keeps("fits(0, 7, -2)", -1)
            .keeps("fits(0, 7, MOST)", -1);
        edge.keeps("fits(0, 7, LEAST)", -1).keeps("fits(0, 3, -1)", 0).keeps("fits(0, 3, 0)", -1)
            .keeps("fits(1, 3, 0)", 0);
        edge.refuses("fits(2, 0, -1)", -11).refuses("fits(-1, 0, 0)", -11).refuses("fits(0, 8, -1)", -11);
        edge.refuses("fits(0, -1, 0)", -11).is("status(11)", 4);
        edge.anew().rule("e(u)", "u").terms(Edge.over(39, "e", "a")).keeps("fits(0, 0, -1)", 39)
            .keeps("fits(0, 0, 38)", 38);
        edge.keeps("fits(0, 0, 39)", -1).rule("a", "b").keeps("fits(1, 0, 0)", 39);
        // What stood where a shorter term stands now is no node of it.
        edge.anew().rule("a", "b").terms("i(a,a)").does("drop()").terms("a").keeps("fits(0, 0, -1)", 1);
        edge.keeps("fits(0, 0, 1)", -1).keeps("redexes(0)", 1).does("drop()").terms("i(b,a)").does("drop()").terms("b");
        edge.keeps("fits(0, 0, -1)", 0).keeps("fits(0, 0, 0)", -1).keeps("redexes(0)", 0).keeps("termOf(0, 3)", 1);
    }

    private static void redexes() {
        Edge.of("REDEXES: bits. -1.").full()
            .refuses("redexes(7)", -1).refuses("redexes(-1)", -1).refuses("redexes(MOST)", -1)
            .refuses("redexes(LEAST)", -1)
            .keeps("redexes(0)", 1).keeps("redexes(1)", 0).keeps("redexes(2)", 6).keeps("redexes(3)", 1)
            .keeps("redexes(4)", 0)
            .keeps("redexes(6)", 2);
    }

    private static void rewrite() {
        Edge edge = Edge.of("A new TERM: t REWRITTEN by a RULE at a NODE: its number. -1; -5 no such NODE; -6 it"
            + " doesn't FIT; -7 above 40 NODES, no room.").full();
        edge.refuses("rewrite(2, 0, 9)", -1).refuses("rewrite(-1, 0, 9)", -1).refuses("rewrite(0, 7, 9)", -1);
        edge.refuses("rewrite(0, -1, 9)", -1).refuses("rewrite(0, 2, 4)", -5).refuses("rewrite(0, 2, -1)", -5);
        edge.refuses("rewrite(1, 3, 1)", -5).refuses("rewrite(0, 2, MOST)", -5).refuses("rewrite(0, 2, 3)", -6);
        edge.is("rewrite(0, 2, 2)", 7).reads(7, "i(a,b)").is("rewrite(1, 2, 1)", 8).reads(8, "i(b,e(b))")
            .reads(2, "i(a,e(b))");
        edge.numbered("rewrite(1, 2, 1)", 9, 23);
        edge.refuses("rewrite(1, 2, 4)", -5).refuses("rewrite(1, 2, 0)", -6).refuses("rewrite(1, 2, 1)", -7);
        edge.anew().rule("h(u)", "j(u,u)")
            .terms("f(h(" + Edge.over(18, "f", "a") + "))", "h(" + Edge.over(19, "f", "a") + ")");
        edge.is("rewrite(0, 0, 1)", 2).is("termOf(2, 0)", 40).refuses("rewrite(0, 1, 0)", -7);
        edge.anew().rule("h(u)", "j(u,u)").terms("i(h(" + Edge.over(18, "f", "a") + "),b)")
            .refuses("rewrite(0, 0, 1)", -7);
    }
}
