/** Promises 17 to 22: rules, what a match binds, where rules fit, rewriting. */
public final class RulesTest {
    public static void main(String[] args) {
        rule();
        ruleOf();
        bound();
        boundWithOrder();
        boundBySix();
        fits();
        redexes();
        rewrite();
        Due.end();
    }

    private static void rule() {
        Due due = new Due("17");
        TermStrategies it = due.it;
        due.term("e(u)");
        due.term("u");
        due.term("i(u,v)");
        due.term("a");
        due.is("rule(1, 1)", it.rule(1, 1), -6);
        due.is("rule(1, 3)", it.rule(1, 3), -6);
        due.is("rule(0, 2)", it.rule(0, 2), -6);
        due.is("rule(3, 1)", it.rule(3, 1), -6);
        due.is("rule(4, 0)", it.rule(4, 0), -1);
        due.is("rule(0, 4)", it.rule(0, 4), -1);
        due.is("rule(1, -1)", it.rule(1, -1), -1);
        due.is("rule(2, 0)", it.rule(2, 0), 0);
        due.is("rule(0, 1)", it.rule(0, 1), 1);
        due.is("rule(3, 3)", it.rule(3, 3), 2);
        for (int r = 3; r < 12; r++) {
            due.is("rule(2, 2)", it.rule(2, 2), r);
        }
        due.is("rule(2, 2)", it.rule(2, 2), -7);
        due.is("rule(0, 2), a wrong one without room", it.rule(0, 2), -6);
        due.is("status(1)", it.status(1), 12);
        due.refused(3, 0, 0, 0, 0, 5, 1);
    }

    private static void ruleOf() {
        Due due = new Due("18");
        TermStrategies it = due.it;
        due.is("ruleOf(0, true, 0)", it.ruleOf(0, true, 0), -1);
        due.rule("i(u,e(v))", "f(v)");
        due.rule("a", "b");
        // The rules keep their terms: others stand where these stood.
        due.term("l(c,c)");
        due.term("l(d,d)");
        String left = "iuev";
        for (int i = 0; i < 4; i++) {
            due.is("ruleOf(0, false, " + i + ")", it.ruleOf(0, false, i), left.charAt(i));
        }
        due.is("ruleOf(0, true, 0)", it.ruleOf(0, true, 0), 'f');
        due.is("ruleOf(0, true, 1)", it.ruleOf(0, true, 1), 'v');
        due.is("ruleOf(1, false, 0)", it.ruleOf(1, false, 0), 'a');
        due.is("ruleOf(1, true, 0)", it.ruleOf(1, true, 0), 'b');
        due.is("ruleOf(0, false, 4)", it.ruleOf(0, false, 4), -5);
        due.is("ruleOf(0, true, 2)", it.ruleOf(0, true, 2), -5);
        due.is("ruleOf(0, true, -1)", it.ruleOf(0, true, -1), -5);
        due.is("ruleOf(2, true, -1)", it.ruleOf(2, true, -1), -1);
        due.is("ruleOf(-1, false, 0)", it.ruleOf(-1, false, 0), -1);
        due.refused(3, 0, 0, 0, 3, 0, 0);
    }

    /** What a variable is bound to is the term that a text tells, and nothing behind it. */
    private static void bind(Due due, int p, int t, char v, String text) {
        String signs = text.replaceAll("[(),]", "");
        for (int i = 0; i < signs.length(); i++) {
            due.is("bound(" + p + ", " + t + ", " + v + ", " + i + ")", due.it.bound(p, t, v, i), signs.charAt(i));
        }
        due.is("bound(" + p + ", " + t + ", " + v + ", " + signs.length() + ")",
            due.it.bound(p, t, v, signs.length()), -5);
    }

    private static void bound() {
        Due due = new Due("19");
        TermStrategies it = due.it;
        due.term("i(u,i(v,u))");
        due.term("i(e(a),i(j(u,b),e(a)))");
        due.term("i(e(a),i(j(u,b),e(b)))");
        due.term("u");
        due.term("i(u,b)");
        due.term("i(v,b)");
        bind(due, 0, 1, 'u', "e(a)");
        bind(due, 0, 1, 'v', "j(u,b)");
        due.is("bound(0, 1, w, 0)", it.bound(0, 1, 'w', 0), -5);
        due.is("bound(0, 1, a, 0)", it.bound(0, 1, 'a', 0), -5);
        due.is("bound(0, 1, t, 0)", it.bound(0, 1, 't', 0), -5);
        due.is("bound(0, 1, {, 0)", it.bound(0, 1, '{', 0), -5);
        due.is("bound(0, 1, u, -1)", it.bound(0, 1, 'u', -1), -5);
        due.is("bound(0, 2, u, 0)", it.bound(0, 2, 'u', 0), -6);
        due.is("bound(0, 2, w, 0)", it.bound(0, 2, 'w', 0), -6);
        due.is("bound(0, 3, u, 0)", it.bound(0, 3, 'u', 0), -6);
        bind(due, 3, 2, 'u', "i(e(a),i(j(u,b),e(b)))");
        bind(due, 3, 3, 'u', "u");
        bind(due, 4, 5, 'u', "v");
        due.is("bound(5, 2, v, 0)", it.bound(5, 2, 'v', 0), -6);
        due.is("bound(6, 2, v, 0)", it.bound(6, 2, 'v', 0), -1);
        due.is("bound(0, 6, v, 0)", it.bound(0, 6, 'v', 0), -1);
        due.is("bound(-1, -1, v, 0)", it.bound(-1, -1, 'v', 0), -1);
        due.is("status(11)", it.status(11), 3);
        due.is("status(16)", it.status(16), 4);
    }

    private static void boundWithOrder() {
        Due due = new Due("19");
        TermStrategies it = due.it;
        due.term("i(u,a)");
        due.term("i(a,b)");
        due.is("bound(0, 1, u, 0)", it.bound(0, 1, 'u', 0), -6);
        it.commute('i', true);
        bind(due, 0, 1, 'u', "b");
        due.term("i(i(u,v),v)");
        due.term("i(c,i(b,c))");
        bind(due, 2, 3, 'u', "b");
        bind(due, 2, 3, 'v', "c");
        // Both ways do for the first argument: the one that comes first, and then the one that lets the second match.
        due.term("j(i(u,v),w)");
        due.term("j(i(a,b),c)");
        bind(due, 4, 5, 'u', "a");
        due.term("j(i(u,v),u)");
        due.term("j(i(a,b),b)");
        bind(due, 6, 7, 'u', "b");
        bind(due, 6, 7, 'v', "a");
        // The outer one as it stands is tried with each way of the inner ones ahead of the outer one turned.
        due.term("i(i(u,v),i(w,x))");
        due.term("i(i(a,b),i(c,d))");
        bind(due, 8, 9, 'u', "a");
        bind(due, 8, 9, 'w', "c");
        due.term("i(i(u,v),i(w,c))");
        bind(due, 10, 9, 'u', "a");
        bind(due, 10, 9, 'v', "b");
        bind(due, 10, 9, 'w', "d");
        due.term("i(i(u,v),i(w,b))");
        bind(due, 11, 9, 'u', "c");
        bind(due, 11, 9, 'w', "a");
        due.term("i(j(u,v),i(v,u))");
        due.term("i(i(a,b),j(a,b))");
        bind(due, 12, 13, 'u', "a");
        // Turned, the first argument is still tried first: u is bound by it, to the term's second.
        due.term("i(u,e(u))");
        due.term("i(e(e(a)),e(a))");
        bind(due, 14, 15, 'u', "e(a)");
        it.commute('i', false);
        due.is("bound(8, 9, u, 0)", it.bound(8, 9, 'u', 0), 'a');
        due.is("bound(14, 15, u, 0)", it.bound(14, 15, 'u', 0), -6);
    }

    private static void boundBySix() {
        Due due = new Due("19");
        TermStrategies it = due.it;
        it.commute('i', true);
        it.commute('l', true);
        due.term("j(i(i(i(l(i(u,a),b),c),d),d),d)");
        due.term("j(i(d,i(d,i(c,l(b,i(a,z))))),d)");
        due.is("bound(0, 1, u, 0), five that commute", it.bound(0, 1, 'u', 0), 'z');
        due.term("j(i(i(i(l(i(i(u,a),a),b),c),d),d),d)");
        due.term("j(i(d,i(d,i(c,l(b,i(a,i(a,z)))))),d)");
        due.is("bound(2, 3, u, 0), six that commute", it.bound(2, 3, 'u', 0), 'z');
        due.term("j(i(i(i(l(i(i(i(u,b),a),a),b),c),d),d),d)");
        due.term("j(i(d,i(d,i(c,l(b,i(a,i(a,i(b,z))))))),d)");
        due.is("bound(4, 5, u, 0), seven that commute", it.bound(4, 5, 'u', 0), -6);
        due.is("bound(4, 4, u, 0), as if none did", it.bound(4, 4, 'u', 0), 'u');
        it.commute('l', false);
        due.is("bound(4, 5, u, 0), l as it stands", it.bound(4, 5, 'u', 0), -6);
        due.term("j(i(d,i(d,i(c,l(i(a,i(a,i(b,z))),b)))),d)");
        due.is("bound(4, 6, u, 0), six without l", it.bound(4, 6, 'u', 0), 'z');
        // A match that is found last of all, by every operator turned.
        due.term("i(i(i(i(i(i(u,e(u)),e(u)),e(u)),e(u)),e(u)),e(u))");
        due.term("i(e(a),i(e(a),i(e(a),i(e(a),i(e(a),i(e(a),a))))))");
        due.is("bound(7, 8, u, 0)", it.bound(7, 8, 'u', 0), 'a');
    }

    private static void fits() {
        Due due = new Due("20");
        TermStrategies it = due.it;
        due.rule("e(u)", "u");
        due.rule("i(u,u)", "u");
        due.rule("j(u,a)", "u");
        due.term("i(e(e(a)),e(e(a)))");
        due.term("i(e(a),j(a,e(b)))");
        int[][] nodes = {{1, 2, 4, 5}, {0}, {}};
        for (int r = 0; r < 3; r++) {
            due.is("fits(" + r + ", 0, -1)", it.fits(r, 0, -1), nodes[r].length);
            for (int i = 0; i < nodes[r].length; i++) {
                due.is("fits(" + r + ", 0, " + i + ")", it.fits(r, 0, i), nodes[r][i]);
            }
            due.is("fits(" + r + ", 0, beyond)", it.fits(r, 0, nodes[r].length), -1);
        }
        due.is("fits(0, 0, -2)", it.fits(0, 0, -2), -1);
        due.is("fits(2, 1, -1)", it.fits(2, 1, -1), 0);
        it.commute('j', true);
        due.is("fits(2, 1, -1)", it.fits(2, 1, -1), 1);
        due.is("fits(2, 1, 0)", it.fits(2, 1, 0), 3);
        due.refused(0, 0, 0, 0, 0, 0, 0);
        due.is("fits(3, 0, -1)", it.fits(3, 0, -1), -11);
        due.is("fits(0, 2, 0)", it.fits(0, 2, 0), -11);
        due.is("fits(-1, 0, 0)", it.fits(-1, 0, 0), -11);
        due.is("fits(0, -1, 0)", it.fits(0, -1, 0), -11);
        due.refused(4, 0, 0, 0, 0, 0, 0);
    }

    private static void redexes() {
        Due due = new Due("21");
        TermStrategies it = due.it;
        due.is("redexes(0)", it.redexes(0), -1);
        due.term(Due.over(39, "e", "a"));
        due.term("i(e(a),j(b,c))");
        due.is("redexes(0) without rules", it.redexes(0), 0);
        due.rule("e(u)", "u");
        due.is("redexes(0)", it.redexes(0), (1L << 39) - 1);
        due.is("redexes(1)", it.redexes(1), 2);
        due.rule("a", "b");
        due.is("redexes(0)", it.redexes(0), (1L << 40) - 1);
        due.rule("j(c,u)", "u");
        due.is("redexes(1)", it.redexes(1), 6);
        it.commute('j', true);
        due.is("redexes(1)", it.redexes(1), 14);
        due.rule("i(u,v)", "v");
        due.is("redexes(1)", it.redexes(1), 15);
        due.is("redexes(2)", it.redexes(2), -1);
        due.is("redexes(-1)", it.redexes(-1), -1);
        due.refused(3, 0, 0, 0, 0, 0, 0);
    }

    private static void rewrite() {
        Due due = new Due("22");
        TermStrategies it = due.it;
        due.rule("i(u,e(v))", "j(e(v),i(u,u))");
        due.rule("e(u)", "u");
        due.rule("i(u,a)", "u");
        due.term("k(e(a),i(f(b),e(c)))");
        due.is("rewrite(0, 0, 3)", it.rewrite(0, 0, 3), 1);
        due.reads("rewrite(0, 0, 3)", 1, "k(e(a),j(e(c),i(f(b),f(b))))");
        due.is("rewrite(1, 0, 1)", it.rewrite(1, 0, 1), 2);
        due.reads("rewrite(1, 0, 1)", 2, "k(a,i(f(b),e(c)))");
        due.is("rewrite(1, 0, 6)", it.rewrite(1, 0, 6), 3);
        due.reads("rewrite(1, 0, 6)", 3, "k(e(a),i(f(b),c))");
        due.is("rewrite(0, 0, 0)", it.rewrite(0, 0, 0), -6);
        due.is("rewrite(0, 0, 8)", it.rewrite(0, 0, 8), -5);
        due.is("rewrite(0, 0, -1)", it.rewrite(0, 0, -1), -5);
        due.is("rewrite(3, 0, -1)", it.rewrite(3, 0, -1), -1);
        due.is("rewrite(0, 4, -1)", it.rewrite(0, 4, -1), -1);
        due.is("rewrite(-1, -1, 0)", it.rewrite(-1, -1, 0), -1);
        due.term("i(a,e(u))");
        due.is("rewrite(2, 4, 0)", it.rewrite(2, 4, 0), -6);
        it.commute('i', true);
        due.is("rewrite(2, 4, 0)", it.rewrite(2, 4, 0), 5);
        due.reads("rewrite(2, 4, 0)", 5, "e(u)");
        due.rule("f(u)", "i(u,u)");
        due.term(Due.over(2, "e", "f(" + Due.over(17, "e", "a") + ")"));
        due.is("rewrite(3, 6, 2)", it.rewrite(3, 6, 2), 7);
        due.is("termOf(7, 0)", it.termOf(7, 0), 39);
        due.term(Due.over(3, "e", "f(" + Due.over(17, "e", "a") + ")"));
        due.is("rewrite(3, 8, 3), to 40 nodes", it.rewrite(3, 8, 3), 9);
        due.term(Due.over(4, "e", "f(" + Due.over(17, "e", "a") + ")"));
        due.is("rewrite(3, 10, 4), to 41 nodes", it.rewrite(3, 10, 4), -7);
        // The variables of the term are not those of the rule.
        due.rule("l(u,v)", "l(v,u)");
        due.term("l(v,u)");
        due.is("rewrite(4, 11, 0)", it.rewrite(4, 11, 0), 12);
        due.reads("rewrite(4, 11, 0)", 12, "l(u,v)");
        for (int t = 13; t < 24; t++) {
            due.is("rewrite(4, 11, 0)", it.rewrite(4, 11, 0), t);
        }
        due.is("rewrite(4, 11, 0) without room", it.rewrite(4, 11, 0), -7);
        due.is("rewrite(4, 11, 1) without room", it.rewrite(4, 11, 1), -6);
        due.reads("the term that was rewritten", 11, "l(v,u)");
        due.refused(3, 0, 0, 0, 2, 3, 2);
    }
}
