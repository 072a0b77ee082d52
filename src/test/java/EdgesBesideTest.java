/** The edges that the document names in "3. Rules beside rules": a test for each sentence. */
public final class EdgesBesideTest {
    public static void main(String[] args) {
        unify();
        unifyNone();
        namesAnew();
        nodesOfOverlaps();
        whatOverlapsAre();
        namesByThePeak();
        threeVariables();
        meets();
        meetsByTheFirstRule();
        meetsWithin600();
        meetsWithin40();
        redexes();
        same();
        sameButForOrder();
        days();
        daysWithRoom();
        draw();
        shelves();
        rows();
        readAsInts();
        Edge.end();
    }

    private static void unifies(Edge edge, String one, String two, String want) {
        edge.anew().terms(one, two).is("unify(0, 1)", 2).reads(2, want);
    }

    private static void unify() {
        Edge edge = Edge.of("UNIFY of two TERMS (no VARIABLE of the one is one of the other; no regard to COMMUTE):"
            + " the least that is to be put in for VARIABLES so that both are the same");
        unifies(edge, "a", "a", "a");
        unifies(edge, "u", "a", "a");
        unifies(edge, "a", "u", "a");
        unifies(edge, "u", "e(u)", "e(u)");
        unifies(edge, "e(u)", "u", "e(u)");
        unifies(edge, "i(u,a)", "i(b,u)", "i(b,a)");
        unifies(edge, "i(u,u)", "i(v,e(w))", "i(e(u),e(u))");
        unifies(edge, "i(u,i(v,w))", "i(w,i(v,u))", "i(u,i(v,w))");
        edge.anew().does("commute('i', true)").terms("i(a,u)", "i(b,a)").refuses("unify(0, 1)", -6);
        edge.anew().does("commute('i', true)").terms("i(u,a)", "i(b,v)").is("unify(0, 1)", 2).reads(2, "i(b,a)");
    }

    private static void unifyNone() {
        Edge edge = Edge.of("NONE (also if a VARIABLE would have to be in what is put in for it).");
        edge.terms("a", "b", "e(u)", "f(u)", "i(u,u)", "i(v,e(v))", "i(e(v),v)", "i(a,b)", "i(v,w)", "i(a,a)", "u");
        edge.refuses("unify(0, 1)", -6).refuses("unify(2, 3)", -6).refuses("unify(0, 2)", -6)
            .refuses("unify(4, 7)", -6);
        edge.refuses("unify(4, 5)", -6).refuses("unify(5, 4)", -6).refuses("unify(5, 6)", -6);
        edge.is("unify(4, 9)", 11).is("unify(4, 8)", 12).reads(12, "i(u,u)").is("unify(10, 5)", 13)
            .reads(13, "i(u,e(u))");
        edge.anew().terms("i(u,u)", "i(v,j(v,a))", "i(v,j(a,v))", "i(v,j(a,e(v)))", "i(j(a,b),j(a,b))", "i(v,j(a,w))");
        edge.refuses("unify(0, 1)", -6).refuses("unify(0, 2)", -6).refuses("unify(0, 3)", -6)
            .refuses("unify(2, 0)", -6);
        edge.is("unify(0, 4)", 6).is("unify(0, 5)", 7).reads(7, "i(j(a,u),j(a,u))");
        // Through others, and far above 40 nodes: it is NONE all the same.
        edge.anew().terms("k(k(u,v),k(v,u))", "k(k(e(x),x),k(y,y))", "k(k(u,v),w)", "k(k(e(x),x),y)");
        edge.refuses("unify(0, 1)", -6).is("unify(2, 3)", 4).reads(4, "k(k(e(u),u),v)");
        String big = "l(l(l(l(u,u),l(u,u)),l(l(u,u),l(u,u))),l(u,u))";
        edge.anew().terms("k(k(v," + big + "),k(w,v))", "k(k(x,y),k(" + big.replace('u', 'x') + ",x))",
            "k(k(x,y),k(" + big.replace('u', 'x') + ",e(x)))");
        edge.refuses("unify(0, 1)", -7).refuses("unify(0, 2)", -6);
        // What is the same already stays so, however often and however large: the a and the b are come to all the same.
        String many = "l(l(l(c,c),l(c,c)),l(l(c,c),l(c,c)))";
        edge.anew().terms("k(a,l(u,l(u,l(u,l(u,l(u,l(u,e(" + many + "))))))))",
            "k(b,l(x,l(x,l(x,l(x,l(x,l(l(l(y,y),l(y,y)),e(y))))))))");
        edge.refuses("unify(0, 1)", -6);
    }

    private static void namesAnew() {
        Edge edge = Edge.of("Of what comes the VARIABLES are named anew: the first to come by NODES is u, the next"
            + " one v, and so on to z (there never are more than six).");
        unifies(edge, "z", "y", "u");
        unifies(edge, "i(z,y)", "w", "i(u,v)");
        unifies(edge, "i(z,j(y,z))", "u", "i(u,j(v,u))");
        unifies(edge, "j(i(u,v),w)", "j(z,i(x,y))", "j(i(u,v),i(w,x))");
        // Five, which is the most that comes of two rules with three variables each.
        edge.anew().rule("k(w,k(v,e(u)))", "i(u,i(v,w))").rule("e(i(z,i(y,x)))", "i(x,i(y,z))");
        edge.is("overlap(0, 1, 0, 0)", 0).reads(0, "k(u,k(v,e(i(w,i(x,y)))))");
        edge.is("overlap(0, 1, 0, 1)", 1).reads(1, "i(i(w,i(x,y)),i(v,u))");
        edge.is("overlap(0, 1, 0, 2)", 2).reads(2, "k(u,k(v,i(y,i(x,w))))");
    }

    private static void nodesOfOverlaps() {
        Edge edge = Edge.of("OVERLAPS of a RULE r and a RULE q: NODES of LEFT of r that are no VARIABLES, lesser"
            + " ones first, not the whole if r is q");
        edge.rule("j(e(e(u)),e(v))", "u").rule("e(u)", "i(b,u)").rule("j(u,v)", "v").rule("e(e(e(u)))", "a");
        edge.is("overlaps(0, 1)", 3).is("overlap(0, 1, 0, 2)", 0).reads(0, "j(i(b,e(u)),e(v))");
        edge.is("overlap(0, 1, 1, 2)", 1).reads(1, "j(e(i(b,u)),e(v))");
        edge.is("overlap(0, 1, 2, 2)", 2).reads(2, "j(e(e(u)),i(b,v))").refuses("overlap(0, 1, 3, 2)", -5);
        // Variables don't count as nodes, and the whole does if the other rule is another one.
        edge.is("overlaps(2, 1)", 0).is("overlaps(2, 0)", 1).is("overlaps(0, 2)", 1).is("overlaps(1, 1)", 0);
        edge.is("overlaps(3, 3)", 2).is("overlaps(3, 1)", 3).is("overlaps(1, 3)", 1).is("overlaps(0, 0)", 0);
        // A left of 40 nodes has 39 behind the whole.
        edge.anew().rule(Edge.over(39, "e", "a"), "a").rule("a", "b").rule("e(a)", "b");
        edge.is("overlaps(0, 0)", 0).is("overlaps(0, 1)", 1).is("overlaps(0, 2)", 1).is("overlaps(1, 1)", 0);
    }

    private static void whatOverlapsAre() {
        Edge edge = Edge.of("for which what is there and LEFT of q (its VARIABLES others than those of r) UNIFY: the"
            + " PEAK is LEFT of r with that put in; one way goes to RIGHT of r with that put in, the other one to"
            + " the PEAK with RIGHT of q (with that put in) at the NODE.");
        edge.rule("i(i(u,v),w)", "i(u,i(v,w))").rule("i(e(u),u)", "a").rule("k(e(f(u)),u)", "l(u,u)")
            .rule("f(e(v))", "v");
        edge.is("overlap(0, 1, 0, 0)", 0).reads(0, "i(i(e(u),u),v)").is("overlap(0, 1, 0, 1)", 1)
            .reads(1, "i(e(u),i(u,v))");
        edge.is("overlap(0, 1, 0, 2)", 2).reads(2, "i(a,v)");
        edge.is("overlap(0, 0, 0, 0)", 3).reads(3, "i(i(i(u,v),w),x)").is("overlap(0, 0, 0, 1)", 4);
        edge.reads(4, "i(i(u,v),i(w,x))").is("overlap(0, 0, 0, 2)", 5).reads(5, "i(i(u,i(v,w)),x)");
        // What was put in elsewhere stays there.
        edge.is("overlap(2, 3, 0, 0)", 6).reads(6, "k(e(f(e(u))),e(u))").is("overlap(2, 3, 0, 1)", 7)
            .reads(7, "l(e(u),e(u))");
        edge.is("overlap(2, 3, 0, 2)", 8).reads(8, "k(e(u),e(u))");
        edge.is("overlaps(1, 1)", 0).is("overlaps(1, 3)", 0).is("overlaps(3, 1)", 0);
    }

    private static void namesByThePeak() {
        Edge.of("VARIABLES of all three are named by the PEAK's.")
            .rule("j(e(z),y)", "k(y,z)").rule("e(f(w))", "w")
            .is("overlap(0, 1, 0, 0)", 0).reads(0, "j(e(f(u)),v)").is("overlap(0, 1, 0, 1)", 1).reads(1, "k(v,f(u))")
            .is("overlap(0, 1, 0, 2)", 2).reads(2, "j(u,v)");
    }

    private static void threeVariables() {
        Edge edge = Edge.of("RULES of which there are OVERLAPS have at most three VARIABLES each (others: none is"
            + " told).");
        edge.rule("i(u,i(v,w))", "u").rule("i(z,i(i(y,x),w))", "a").rule("i(u,i(i(v,w),u))", "a")
            .rule("e(i(a,i(b,c)))", "a");
        edge.is("overlaps(3, 0)", 1).is("overlaps(3, 1)", 0).is("overlaps(0, 0)", 1).is("overlaps(1, 1)", 0);
        edge.is("overlaps(0, 2)", 2).is("overlaps(0, 1)", 0).is("overlaps(2, 0)", 3).is("overlaps(1, 0)", 0);
        edge.refuses("overlap(0, 1, 0, 0)", -5).refuses("overlap(1, 0, 0, 0)", -5);
        edge.refuses("meets(0, 1, 0)", -5).refuses("meets(1, 0, 0)", -5).is("overlap(0, 2, 0, 0)", 0);
    }

    private static void meets() {
        Edge edge = Edge.of("An OVERLAP MEETS if both ways, by INNERMOST of all RULES");
        edge.rule("i(a,u)", "u").rule("i(e(u),u)", "a").rule("i(i(u,v),w)", "i(u,i(v,w))");
        edge.keeps("meets(2, 0, 0)", 1).keeps("meets(2, 1, 0)", 0).keeps("meets(2, 2, 0)", 1);
        edge.rule("i(e(u),i(u,v))", "v").keeps("meets(2, 1, 0)", 1);
        // The same but for order is not the same.
        edge.anew().does("commute('i', true)").rule("e(a)", "i(b,c)").rule("a", "b").rule("e(b)", "i(c,b)");
        edge.keeps("meets(0, 1, 0)", 0);
        // One rule alone, by itself.
        edge.anew().rule("e(e(u))", "u").keeps("meets(0, 0, 0)", 1).refuses("meets(0, 0, 1)", -5);
        edge.anew().rule("e(e(u))", "f(u)").keeps("meets(0, 0, 0)", 0);
    }

    private static void meetsByTheFirstRule() {
        Edge edge = Edge.of("(of RULE 0; of more: of ELSE of that and RULE 1; ELSE of that and RULE 2; and so on)");
        edge.rule("e(a)", "c").rule("e(a)", "d").rule("c", "b").rule("d", "b").rule("c", "a")
            .keeps("meets(0, 1, 0)", 1);
        edge.anew().rule("e(a)", "c").rule("e(a)", "d").rule("c", "a").rule("c", "b").rule("d", "b")
            .keeps("meets(0, 1, 0)", 0);
        // Of twelve rules the last one is of use, too.
        edge.anew().rule("e(a)", "c").rule("e(a)", "d");
        for (int r = 2; r < 11; r++) {
            edge.rule("e(b)", "a");
        }
        edge.keeps("meets(0, 1, 0)", 0).rule("c", "d").is("status(1)", 12).keeps("meets(0, 1, 0)", 1);
    }

    /**
     * With k rules a node at which none fits begins INNERMOST, k - 1 times ELSE and k times RULE; where rule j fits,
     * k + j more are begun for it and INNERMOST of what that made.
     */
    private static void meetsWithin600() {
        Edge edge = Edge.of("come to the SAME; each of the two is a RUN of its own.");
        // 12 rules, 24 nodes, the last rule fits once: 24 * 24 + 12 + 11 + 1 are 600.
        edge.rule("c", Edge.over(23, "e", "a")).rule("c", Edge.over(23, "e", "b"));
        others(edge, 9).rule("a", "b").keeps("meets(0, 1, 0)", 1).keeps("meets(1, 0, 0)", 1);
        // 8 rules, 37 nodes, the first rule fits once: 37 * 16 + 8 + 0 + 1 are 601.
        edge.anew().rule("a", "b").rule("c", Edge.over(36, "e", "a")).rule("c", Edge.over(36, "e", "b"));
        others(edge, 4).keeps("meets(1, 2, 0)", 1);
        others(edge, 1).keeps("meets(1, 2, 0)", 2).keeps("meets(2, 1, 0)", 2);
    }

    private static Edge others(Edge edge, int n) {
        edge.terms("d");
        for (int k = 0; k < n; k++) {
            edge.does("rule(0, 0)");
        }
        return edge.does("drop()");
    }

    private static void meetsWithin40() {
        Edge edge = Edge.of("come to the SAME; each of the two is a RUN of its own.");
        String done = "i(d,".repeat(13) + "d" + ")".repeat(13);
        edge.rule("a", "b").rule("b", "c").rule("c", "d").rule("f(d)", done.replaceFirst("d", "c"));
        edge.rule("f(d)", done.replace("i(d", "i(a").replace(",d)", ",c)")).keeps("meets(3, 4, 0)", 1);
        edge.anew().rule("a", "b").rule("b", "c").rule("c", "d").rule("f(d)", done.replaceFirst("d", "c"));
        edge.rule("f(d)", done.replace("i(d", "i(a").replace(",d)", ",b)")).keeps("meets(3, 4, 0)", 2);
    }

    private static void redexes() {
        Edge edge = Edge.of("REDEXES of a TERM: NODES at which some RULE FITS.");
        edge.terms("i(a,e(a))").keeps("redexes(0)", 0).keeps("termOf(0, 3)", 1);
        edge.rule("a", "b").keeps("redexes(0)", 10).keeps("termOf(0, 3)", 0).rule("e(u)", "u").keeps("redexes(0)", 14);
        edge.rule("i(u,u)", "u").keeps("redexes(0)", 14).rule("i(u,v)", "u").keeps("redexes(0)", 15);
        edge.anew().rule("a", "b").terms(Edge.over(39, "e", "a")).keeps("redexes(0)", 1L << 39);
        edge.rule("e(u)", "u").keeps("redexes(0)", (1L << 40) - 1);
    }

    private static void same() {
        Edge.of("SAME: sign by sign.")
            .terms("a", "a", "b", "u", "v", "i(a,b)", "i(a,b)", "i(b,a)", "e(a)", "e(e(a))")
            .keeps("same(0, 0)", 0).keeps("same(0, 1)", 0).keeps("same(0, 2)", 2).keeps("same(3, 4)", 2)
            .keeps("same(5, 6)", 0)
            .keeps("same(5, 7)", 2).keeps("same(8, 9)", 2).keeps("same(9, 8)", 2).keeps("same(0, 8)", 2);
        Edge edge = Edge.of("SAME: sign by sign.");
        edge.terms(Edge.over(39, "e", "a"), Edge.over(39, "e", "b")).keeps("same(0, 1)", 2).keeps("same(1, 1)", 0);
    }

    private static void sameButForOrder() {
        Edge edge = Edge.of("SAME BUT FOR ORDER: they can be made the same by changing places of arguments of"
            + " OPERATORS that COMMUTE.");
        edge.terms("i(a,j(b,c))", "i(j(b,c),a)", "i(a,j(c,b))", "i(j(c,b),a)", "i(a,j(b,b))", "j(i(a,b),i(a,c))",
            "j(i(c,a),i(b,a))", "j(i(c,a),i(c,a))");
        edge.keeps("same(0, 1)", 2).keeps("same(0, 2)", 2);
        edge.is("commute('i', true)", 0).keeps("same(0, 1)", 1).keeps("same(0, 2)", 2).keeps("same(0, 3)", 2);
        edge.is("commute('j', true)", 0).keeps("same(0, 1)", 1).keeps("same(0, 2)", 1).keeps("same(0, 3)", 1);
        edge.keeps("same(0, 4)", 2).keeps("same(0, 0)", 0).keeps("same(5, 6)", 1).keeps("same(5, 7)", 2)
            .keeps("same(7, 5)", 2);
        edge.is("commute('i', false)", 1).keeps("same(0, 1)", 2).keeps("same(0, 2)", 1).keeps("same(5, 6)", 2);
        edge.anew().does("commute('i', true)").terms("i(e(a),b)", "i(b,e(a))", "i(b,e(b))", "e(i(a,b))", "e(i(b,a))",
            "f(i(b,a))", "j(i(a,b),e(c))", "j(i(b,a),e(c))", "j(i(b,a),e(d))");
        edge.keeps("same(0, 1)", 1).keeps("same(0, 2)", 2).keeps("same(3, 4)", 1).keeps("same(3, 5)", 2);
        edge.keeps("same(6, 7)", 1).keeps("same(6, 8)", 2);
        // More than six that commute, which counts for patterns alone; 39 nodes of each.
        edge.anew().does("commute('i', true)")
            .terms("i(a,".repeat(19) + "b" + ")".repeat(19), "i(".repeat(19) + "b" + ",a)".repeat(19),
            "i(".repeat(19) + "a" + ",a)".repeat(18) + ",b)");
        edge.keeps("same(0, 1)", 1).keeps("same(1, 0)", 1).keeps("same(0, 2)", 2).keeps("same(2, 1)", 2);
    }

    private static void days() {
        Edge edge = Edge.of("DAYS by draws, n times: r a DRAW below how many RULES, t a DRAW below how many TERMS:"
            + " if r FITS at some NODE of t");
        for (int n : new int[] {1, 2, 40}) {
            edge.anew().rule("a", "b").rule("b", "a").terms("e(a)", "c");
            int seed = 1;
            int here = 0;
            int turned = 0;
            for (int day = 0; day < n; day++) {
                seed = next(seed);
                int rule = upper(seed) % 2;
                seed = next(seed);
                if (upper(seed) % 2 == 0 && rule == here) {
                    turned++;
                    here = 1 - here;
                }
            }
            // A day on which nothing fits has its two draws, too.
            edge.is("days(" + n + ")", turned).is("status(5)", seed).is("node(0, 1)", 'a' + here).is("status(0)", 2);
            edge.is("status(6)", 0);
        }
    }

    private static int next(int seed) {
        return (int) ((seed & 0xffffffffL) * 1103515245L + 12345L);
    }

    private static int upper(int seed) {
        return (int) ((seed & 0xffffffffL) / 65536L);
    }

    private static void daysWithRoom() {
        Edge edge = Edge.of("and there is room for what comes (40 NODES), t is that TERM REWRITTEN at the least one.");
        edge.rule("g(u)", "e(j(u,u))").terms("g(" + Edge.over(18, "f", "a") + ")").is("days(1)", 1)
            .is("termOf(0, 0)", 40);
        edge.anew().rule("h(u)", "j(u,u)").terms("h(" + Edge.over(19, "f", "a") + ")").is("days(40)", 0)
            .is("termOf(0, 0)", 21);
        // The least node alone is tried: behind it there would be room.
        edge.anew().rule("h(u)", "j(u,u)").terms("h(" + Edge.over(18, "f", "h(a)") + ")").is("days(40)", 0)
            .is("termOf(0, 0)", 21);
        edge.anew().rule("e(u)", "f(u)").terms("i(a,i(e(b),e(e(c))))").is("days(1)", 1)
            .reads(0, "i(a,i(f(b),e(e(c))))");
        edge.is("days(1)", 1).reads(0, "i(a,i(f(b),f(e(c))))").is("days(1)", 1).reads(0, "i(a,i(f(b),f(f(c))))")
            .is("days(1)", 0);
    }

    private static void draw() {
        Edge edge = Edge.of("A DRAW below n: SEED (1 at first) becomes SEED times 1103515245, and 12345 (an int,"
            + " wrapping); its upper 16 bits, no sign, modulo n.");
        edge.is("status(5)", 1);
        for (int seed : new int[] {1, 0, -1, 2, 7, 12345, 65536, Integer.MAX_VALUE, Integer.MIN_VALUE, -77, 99}) {
            edge.anew().rule("a", "b").rule("a", "c").rule("a", "d").terms("a", "a", "a", "a", "a", "a", "a");
            if (seed != 1) {
                edge.does("seed(" + seed + ")");
            }
            int first = next(seed);
            int second = next(first);
            edge.is("days(1)", 1).is("status(5)", second);
            for (int t = 0; t < 7; t++) {
                edge.is("node(" + t + ", 0)", t == upper(second) % 7 ? 'b' + upper(first) % 3 : 'a');
            }
        }
        // By hand: 1 becomes 1103527590, whose upper bits are 16838; that becomes -1817258117 (37806, no sign).
        edge.anew().rule("a", "b").terms("a").is("days(1)", 1).is("status(5)", next(1103527590));
        edge.is("seed(1)", next(1103527590));
    }

    private static void shelves() {
        Edge edge = Edge.of("SHELVES 0 to 7 hold NOTHING (at first), a ROW, or one of the STRATEGIES.");
        edge.is("strategy(1, 0, 0)", 0);
        for (int s = 0; s < 8; s++) {
            edge.keeps("holds(" + s + ")", -1).is("row(" + s + ", 2, 1)", 1).is("holds(" + s + ")", 102);
            edge.is("show(" + s + ", 0)", 1).is("holds(" + s + ")", 0);
        }
        for (int s : new int[] {-1, 8}) {
            edge.keeps("holds(" + s + ")", -1).refuses("row(" + s + ", 2, 1)", -1).refuses("show(" + s + ", 0)", -1);
            edge.refuses("set(" + s + ", 0, 0)", -1).refuses("term(" + s + ")", -1).refuses("says(" + s + ", 0)", -1);
            edge.refuses("copy(" + s + ", 0, 0, 0, 0)", -1).refuses("copy(0, " + s + ", 0, 0, 0)", -1);
            edge.refuses("judge(" + s + ", 0, 0)", -11).keeps("element(" + s + ", 0)", 0);
        }
    }

    private static void rows() {
        Edge edge = Edge.of("A ROW has a SORT (0 bytes, 1 shorts, 2 ints, 3 longs) and 0 to 160 elements, 0 at"
            + " first; what is put in keeps its lowest bits.");
        long[] most = {127, 32767, 2147483647L, Long.MAX_VALUE};
        for (int sort = 0; sort < 4; sort++) {
            edge.anew().is("row(0, " + sort + ", 0)", 1).is("holds(0)", 100 + sort).refuses("set(0, 0, 1)", -5);
            edge.is("row(0, " + sort + ", 160)", 1).refuses("set(0, 160, 1)", -5).is("set(0, 159, -1)", 1)
                .is("element(0, 159)", -1);
            edge.is("element(0, 0)", 0).is("element(0, 158)", 0);
            edge.is("set(0, 0, " + most[sort] + ")", 1).is("element(0, 0)", most[sort]);
            edge.is("set(0, 0, " + (most[sort] + 1) + ")", 1).is("element(0, 0)", -most[sort] - 1);
            edge.is("set(0, 0, " + (-most[sort] - 1) + ")", 1).is("element(0, 0)", -most[sort] - 1);
            edge.is("set(0, 0, " + (-most[sort] - 2) + ")", 1).is("element(0, 0)", most[sort]);
            edge.is("set(0, 0, " + (2 * most[sort] + 2) + ")", 1).is("element(0, 0)", 0);
            edge.refuses("row(0, " + sort + ", 161)", -7).is("element(0, 159)", -1);
            // A new row has 0 at first, whatever stood there.
            edge.is("row(0, " + sort + ", 160)", 1).is("element(0, 159)", 0);
        }
        edge.anew().refuses("row(0, -1, 0)", -6).refuses("row(0, 4, 0)", -6).refuses("row(0, 0, -1)", -4);
    }

    private static void readAsInts() {
        Edge edge = Edge.of("All is read as ints (of longs the lowest 32 bits).");
        edge.is("row(0, 3, 4)", 1).is("set(0, 0, " + ((1L << 32) + 'e') + ")", 1)
            .is("set(0, 1, " + ((7L << 40) + '(') + ")", 1);
        edge.is("set(0, 2, " + (Long.MIN_VALUE + 'a') + ")", 1).is("set(0, 3, " + ((-1L << 32) + ')') + ")", 1);
        edge.is("term(0)", 0).reads(0, "e(a)").is("element(0, 0)", (1L << 32) + 'e');
        edge.is("set(0, 2, " + ((1L << 31) + 'a') + ")", 1).is("term(0)", -6).is("fault()", 2);
        edge.is("row(1, 2, 1)", 1).is("set(1, 0, " + (256 + 'a') + ")", 1).is("term(1)", -6).is("fault()", 0);
        edge.is("row(1, 1, 1)", 1).is("set(1, 0, " + (65536 + 'a') + ")", 1).is("term(1)", 1).reads(1, "a");
        edge.is("strategy(1, 0, 0)", 0).is("row(2, 3, 2)", 1).is("set(2, 0, " + ((5L << 32) + 1) + ")", 1);
        edge.is("set(2, 1, " + ((3L << 32) + 1) + ")", 1).keeps("judge(2, 0, 1)", -1);
        edge.is("set(2, 1, " + ((1L << 31) + 1) + ")", 1).refuses("judge(2, 0, 1)", -16);
    }
}
