/** Promises 30 to 33: unifying, overlaps, whether they meet. */
public final class BesideTest {
    public static void main(String[] args) {
        unify();
        unifyNone();
        unifyRefusals();
        unifyBeyond();
        overlaps();
        overlapsByRoom();
        overlap();
        meets();
        meetsByRuns();
        Due.end();
    }

    private static void unified(Due due, String one, String two, String want) {
        TermStrategies it = due.it;
        int t = due.term(one);
        int u = due.term(two);
        int made = it.unify(t, u);
        String call = "unify of " + one + " and " + two;
        if (want.isEmpty()) {
            due.is(call, made, -6);
        } else {
            due.is(call, made, u + 1);
            due.reads(call, made, want);
            it.drop();
        }
        it.drop();
        it.drop();
    }

    private static void unify() {
        Due due = new Due("30");
        unified(due, "a", "a", "a");
        unified(due, "u", "a", "a");
        unified(due, "e(b)", "z", "e(b)");
        unified(due, "x", "z", "u");
        unified(due, "i(z,y)", "w", "i(u,v)");
        unified(due, "u", "i(z,j(y,z))", "i(u,j(v,u))");
        unified(due, "u", "e(u)", "e(u)");
        unified(due, "e(u)", "u", "e(u)");
        unified(due, "j(w,e(u))", "w", "j(u,e(v))");
        unified(due, "i(u,a)", "i(b,u)", "i(b,a)");
        unified(due, "i(u,u)", "i(v,e(w))", "i(e(u),e(u))");
        unified(due, "i(u,i(v,w))", "i(x,i(y,z))", "i(u,i(v,w))");
        unified(due, "i(u,i(v,w))", "i(i(x,y),z)", "i(i(u,v),i(w,x))");
        unified(due, "j(i(u,v),w)", "j(z,i(x,y))", "j(i(u,v),i(w,x))");
        unified(due, "l(u,l(v,l(w,a)))", "l(i(x,y),l(z,z))", "l(i(u,v),l(l(w,a),l(w,a)))");
        unified(due, "k(u,k(v,w))", "k(e(x),k(f(y),g(z)))", "k(e(u),k(f(v),g(w)))");
        unified(due, "i(u,e(u))", "i(e(v),w)", "i(e(u),e(e(u)))");
        unified(due, "i(i(u,v),i(v,w))", "i(i(a,x),i(y,x))", "i(i(a,u),i(u,u))");
        // Those that stay apart are named as they come, six at most.
        unified(due, "j(j(w,v),j(u,k(a,b)))", "j(z,j(x,y))", "j(j(u,v),j(w,k(a,b)))");
        unified(due, "j(l(u,v),j(j(a,w),b))", "j(l(k(z,y),k(b,x)),j(j(a,b),b))", "j(l(k(u,v),k(b,w)),j(j(a,b),b))");
        unified(due, "l(k(u,a),k(v,w))", "l(k(k(y,x),z),k(a,b))", "l(k(k(u,v),a),k(a,b))");
        unified(due, "i(i(w,v),u)", "i(x,i(y,z))", "i(i(u,v),i(w,x))");
        // No regard to order.
        due.it.commute('i', true);
        unified(due, "i(a,b)", "i(b,a)", "");
        unified(due, "i(u,a)", "i(b,v)", "i(b,a)");
    }

    private static void unifyNone() {
        Due due = new Due("30");
        unified(due, "a", "b", "");
        unified(due, "e(u)", "f(u)", "");
        unified(due, "i(u,u)", "i(a,b)", "");
        unified(due, "e(a)", "a", "");
        unified(due, "i(u,u)", "i(v,e(v))", "");
        unified(due, "i(u,e(u))", "i(v,v)", "");
        unified(due, "i(u,u)", "i(v,j(v,a))", "");
        unified(due, "i(u,u)", "i(v,j(a,v))", "");
        unified(due, "i(u,j(a,u))", "i(v,v)", "");
        unified(due, "i(i(u,v),i(w,a))", "i(i(x,j(x,b)),i(y,y))", "i(i(u,j(u,b)),i(a,a))");
        unified(due, "i(i(u,v),i(w,u))", "i(i(x,j(b,x)),i(y,j(b,j(b,y))))", "i(i(j(b,j(b,u)),j(b,j(b,j(b,u)))),i(u,j(b,j(b,u))))");
        unified(due, "i(i(u,v),e(u))", "i(i(e(x),x),v)", "i(i(e(u),u),e(e(u)))");
        unified(due, "i(i(u,v),i(u,v))", "i(i(x,e(x)),i(e(y),y))", "");
        unified(due, "k(k(u,v),w)", "k(k(e(x),e(y)),i(x,y))", "k(k(e(u),e(v)),i(u,v))");
        unified(due, "k(k(u,v),k(v,u))", "k(k(e(x),x),k(y,y))", "");
    }

    private static void unifyRefusals() {
        Due due = new Due("30");
        TermStrategies it = due.it;
        due.term("i(i(u,v),i(w,x))");
        due.term("i(i(u,v),i(w,w))");
        due.term("a");
        due.is("unify(0, 1), four variables", it.unify(0, 1), -5);
        due.is("unify(1, 0), four variables", it.unify(1, 0), -5);
        due.is("unify(0, 2), four variables and NONE", it.unify(0, 2), -5);
        due.is("unify(1, 2)", it.unify(1, 2), -6);
        due.is("unify(0, 3)", it.unify(0, 3), -1);
        due.is("unify(3, 0)", it.unify(3, 0), -1);
        due.is("unify(-1, -1)", it.unify(-1, -1), -1);
        due.is("unify(1, 1)", it.unify(1, 1), 3);
        for (int t = 4; t < 24; t++) {
            due.is("unify(1, 1)", it.unify(1, 1), t);
        }
        due.is("unify(1, 1) without room", it.unify(1, 1), -7);
        due.is("unify(1, 2) without room", it.unify(1, 2), -6);
        due.is("unify(0, 2) without room", it.unify(0, 2), -5);
        due.refused(3, 0, 0, 0, 4, 2, 1);
    }

    private static void unifyBeyond() {
        Due due = new Due("30");
        TermStrategies it = due.it;
        due.term("i(u,i(u,u))");
        due.term("i(" + Due.over(11, "e", "a") + ",v)");
        due.is("unify(0, 1), to 38 nodes", it.unify(0, 1), 2);
        due.is("termOf(2, 0)", it.termOf(2, 0), 2 + 36);
        due.term("i(" + Due.over(12, "e", "a") + ",v)");
        due.is("unify(0, 3), to 41 nodes", it.unify(0, 3), -7);
        due.term("i(e(u),u)");
        due.term("i(v," + Due.over(18, "f", "w") + ")");
        due.is("unify(4, 5), to 40 nodes", it.unify(4, 5), 6);
        due.is("termOf(6, 0)", it.termOf(6, 0), 40);
        // What grows twofold at each step, and what would have to be in itself at the end of that.
        due.term("k(k(k(v,i(u,u)),k(w,i(v,v))),l(a,u))");
        due.term("k(k(k(x,x),k(y,y)),l(a,i(z,z)))");
        due.is("unify(7, 8), far above 40 nodes", it.unify(7, 8), -7);
        due.term("k(k(k(x,x),k(y,y)),l(a,i(z,x)))");
        due.is("unify(7, 9), NONE", it.unify(7, 9), -6);
        String big = "l(l(l(l(u,u),l(u,u)),l(l(u,u),l(u,u))),l(u,u))";
        due.term("k(k(v," + big + "),k(w,v))");
        due.term("k(k(x,y),k(" + big.replace('u', 'x') + ",x))");
        due.is("unify(10, 11)", it.unify(10, 11), -7);
    }

    private static void overlaps() {
        Due due = new Due("31");
        TermStrategies it = due.it;
        due.rule("i(i(u,v),w)", "i(u,i(v,w))");
        due.rule("i(e(u),u)", "a");
        due.rule("i(i(u,v),w)", "i(u,i(v,w))");
        due.rule("j(u,e(v))", "u");
        due.rule("l(i(u,v),i(w,x))", "u");
        due.rule("e(e(e(u)))", "e(u)");
        due.rule("b", "a");
        due.rule("j(u,e(u))", "u");
        int[][] want = {
            {1, 2, 2, 0, 0, 0, 0, 0},
            {1, 0, 1, 0, 0, 1, 0, 0},
            {2, 2, 1, 0, 0, 0, 0, 0},
            {0, 0, 0, 0, 0, 1, 0, 1},
            {0, 0, 0, 0, 0, 0, 0, 0},
            {0, 0, 0, 0, 0, 2, 0, 0},
            {0, 0, 0, 0, 0, 0, 0, 0},
            {0, 0, 0, 1, 0, 1, 0, 0},
        };
        // Rule 1 with rule 0: the whole would have e(u) be i(u,v); so there is none, and one the other way about.
        want[1][0] = 0;
        want[1][2] = 0;
        want[0][1] = 1;
        want[2][1] = 1;
        for (int r = 0; r < 8; r++) {
            for (int q = 0; q < 8; q++) {
                due.is("overlaps(" + r + ", " + q + ")", it.overlaps(r, q), want[r][q]);
            }
        }
        due.refused(0, 0, 0, 0, 0, 0, 0);
        due.is("overlaps(8, 0)", it.overlaps(8, 0), -1);
        due.is("overlaps(0, 8)", it.overlaps(0, 8), -1);
        due.is("overlaps(-1, -1)", it.overlaps(-1, -1), -1);
        due.is("overlap(4, 0, 0, 0), four variables", it.overlap(4, 0, 0, 0), -5);
        due.is("meets(4, 0, 0), four variables", it.meets(4, 0, 0), -5);
        due.refused(3, 0, 0, 0, 2, 0, 0);
        // No regard to order.
        it.commute('i', true);
        due.is("overlaps(0, 1)", it.overlaps(0, 1), 1);
    }

    /** Those that have more than 40 nodes in the peak or in one of the ways aren't told. */
    private static void overlapsByRoom() {
        Due due = new Due("31");
        TermStrategies it = due.it;
        due.rule("i(u,e(v))", "v");
        due.rule("e(" + Due.over(36, "f", "a") + ")", "a");
        due.rule("e(" + Due.over(37, "f", "a") + ")", "a");
        due.rule("i(j(u,u),v)", "u");
        due.rule("j(" + Due.over(17, "f", "a") + ",u)", "u");
        due.rule("j(" + Due.over(18, "f", "a") + ",u)", "u");
        due.rule("e(f(u))", "j(u,u)");
        due.rule("e(f(" + Due.over(18, "f", "a") + "))", "a");
        due.rule("e(f(" + Due.over(19, "f", "a") + "))", "a");
        due.rule("k(e(e(u)),a)", "u");
        due.is("overlaps(0, 1), a peak of 40", it.overlaps(0, 1), 1);
        due.is("overlaps(0, 2), a peak of 41", it.overlaps(0, 2), 0);
        due.is("overlaps(3, 4), a peak of 39", it.overlaps(3, 4), 1);
        due.is("overlaps(3, 5), a peak of 41", it.overlaps(3, 5), 0);
        due.is("overlaps(6, 7), a way of r of 39", it.overlaps(6, 7), 1);
        due.is("overlaps(6, 8), a way of r of 41", it.overlaps(6, 8), 0);
        due.is("overlaps(7, 6), a way of q of 39", it.overlaps(7, 6), 1);
        due.is("overlaps(8, 6), a way of q of 41", it.overlaps(8, 6), 0);
        due.is("overlap(8, 6, 0, 0)", it.overlap(8, 6, 0, 0), -5);
        due.rule("e(e(" + Due.over(19, "f", "b") + "))", "a");
        due.rule("e(u)", "i(u,u)");
        // Three nodes: the whole (41 in the way of q), the next (41, too), and no more: f is no e.
        due.is("overlaps(10, 11)", it.overlaps(10, 11), 0);
        // A left of 40 nodes: nothing is looked at behind its last one.
        due.it = new TermStrategies();
        due.rule(Due.over(39, "e", "a"), "a");
        due.is("overlaps(0, 0), 40 nodes", due.it.overlaps(0, 0), 0);
    }

    private static void overlap() {
        Due due = new Due("32");
        TermStrategies it = due.it;
        due.rule("i(i(z,y),x)", "i(z,i(y,x))");
        due.rule("i(e(w),w)", "a");
        due.rule("j(e(e(u)),e(v))", "k(v,u)");
        due.rule("e(u)", "i(b,u)");
        int t = 0;
        t = told(due, 0, 0, 0, t, "i(i(i(u,v),w),x)", "i(i(u,v),i(w,x))", "i(i(u,i(v,w)),x)");
        t = told(due, 0, 1, 0, t, "i(i(e(u),u),v)", "i(e(u),i(u,v))", "i(a,v)");
        // Lesser nodes come first.
        t = told(due, 2, 3, 0, t, "j(e(e(u)),e(v))", "k(v,u)", "j(i(b,e(u)),e(v))");
        t = told(due, 2, 3, 1, t, "j(e(e(u)),e(v))", "k(v,u)", "j(e(i(b,u)),e(v))");
        t = told(due, 2, 3, 2, t, "j(e(e(u)),e(v))", "k(v,u)", "j(e(e(u)),i(b,v))");
        due.is("overlap(2, 3, 3, 0)", it.overlap(2, 3, 3, 0), -5);
        due.is("overlap(2, 3, -1, 0)", it.overlap(2, 3, -1, 0), -5);
        due.is("overlap(2, 3, 0, 3)", it.overlap(2, 3, 0, 3), -5);
        due.is("overlap(2, 3, 0, -1)", it.overlap(2, 3, 0, -1), -5);
        due.is("overlap(2, 4, 0, -1)", it.overlap(2, 4, 0, -1), -1);
        due.is("overlap(4, 2, 0, 0)", it.overlap(4, 2, 0, 0), -1);
        due.is("overlap(-1, -1, 0, 0)", it.overlap(-1, -1, 0, 0), -1);
        due.refused(3, 0, 0, 0, 4, 0, 0);
        // Of two rules that are alike the whole counts.
        due.rule("e(x)", "i(b,x)");
        t = told(due, 3, 4, 0, t, "e(u)", "i(b,u)", "i(b,u)");
        due.is("overlap(3, 3, 0, 0)", it.overlap(3, 3, 0, 0), -5);
        // What is put in for a variable comes up elsewhere, too; there it isn't rewritten.
        due.rule("k(e(f(u)),u)", "l(u,u)");
        due.rule("f(e(v))", "v");
        t = told(due, 5, 6, 0, t, "k(e(f(e(u))),e(u))", "l(e(u),e(u))", "k(e(u),e(u))");
        for (; t < 24; t++) {
            due.is("overlap(0, 0, 0, 0)", it.overlap(0, 0, 0, 0), t);
        }
        due.is("overlap(0, 0, 0, 0) without room", it.overlap(0, 0, 0, 0), -7);
        due.is("overlap(0, 0, 1, 0) without room", it.overlap(0, 0, 1, 0), -5);
    }

    private static int told(Due due, int r, int q, int i, int t, String... three) {
        for (int which = 0; which < 3; which++) {
            String call = "overlap(" + r + ", " + q + ", " + i + ", " + which + ")";
            due.is(call, due.it.overlap(r, q, i, which), t + which);
            due.reads(call, t + which, three[which]);
        }
        return t + 3;
    }

    private static void meets() {
        Due due = new Due("33");
        TermStrategies it = due.it;
        due.rule("i(a,u)", "u");
        due.rule("i(e(u),u)", "a");
        due.rule("i(i(u,v),w)", "i(u,i(v,w))");
        due.is("meets(2, 0, 0)", it.meets(2, 0, 0), 1);
        due.is("meets(2, 1, 0)", it.meets(2, 1, 0), 0);
        due.is("meets(2, 2, 0)", it.meets(2, 2, 0), 1);
        due.is("meets(2, 2, 1)", it.meets(2, 2, 1), -5);
        due.is("meets(2, 2, -1)", it.meets(2, 2, -1), -5);
        due.is("meets(2, 3, -1)", it.meets(2, 3, -1), -1);
        due.is("meets(3, 2, 0)", it.meets(3, 2, 0), -1);
        due.rule("i(e(u),i(u,v))", "v");
        due.is("meets(2, 1, 0) with a rule more", it.meets(2, 1, 0), 1);
        due.is("status(0)", it.status(0), 0);
        due.is("status(2)", it.status(2), 0);
        due.refused(2, 0, 0, 0, 2, 0, 0);

        Due ends = new Due("33");
        ends.rule("e(a)", "a");
        ends.rule("a", "b");
        ends.is("meets(0, 1, 0)", ends.it.meets(0, 1, 0), 0);
        ends.rule("e(b)", "b");
        ends.is("meets(0, 1, 0)", ends.it.meets(0, 1, 0), 1);
        ends.rule("b", "f(b)");
        ends.is("meets(0, 1, 0) where both end", ends.it.meets(0, 1, 0), 2);

        Due one = new Due("33");
        one.rule("e(f(a))", "b");
        one.rule("f(a)", "c");
        one.rule("e(c)", "e(e(c))");
        one.is("meets(0, 1, 0) where the way of q ends", one.it.meets(0, 1, 0), 2);
        one.rule("k(a)", "b");
        one.rule("e(d)", "g(f(a))");
        one.rule("d", "b");
        one.rule("g(c)", "g(g(c))");
        one.is("meets(3, 4, 0) where the way of r ends", one.it.meets(3, 4, 0), 2);
    }

    /** Which rule comes first matters, and how many strategies are begun. */
    private static void meetsByRuns() {
        Due due = new Due("33");
        TermStrategies it = due.it;
        due.rule("e(a)", "c");
        due.rule("e(a)", "d");
        due.rule("c", "b");
        due.rule("d", "b");
        due.rule("c", "a");
        due.is("meets(0, 1, 0), the first of two rules for c", it.meets(0, 1, 0), 1);
        Due other = new Due("33");
        it = other.it;
        other.rule("e(a)", "c");
        other.rule("e(a)", "d");
        other.rule("c", "a");
        other.rule("c", "b");
        other.rule("d", "b");
        other.is("meets(0, 1, 0), the other one of them", it.meets(0, 1, 0), 0);

        // With k rules that don't fit an e, each of its nodes begins INNERMOST, k - 1 times ELSE and k times RULE.
        for (int rules = 2; rules < 12; rules++) {
            for (int nodes = 20; nodes < 41; nodes++) {
                if (nodes * 2 * rules + 1 > 700 || nodes * 2 * rules < 500) {
                    continue;
                }
                Due begun = new Due("33");
                begun.rule(Due.over(nodes - 1, "e", "a"), Due.over(nodes - 1, "e", "b"));
                begun.rule(Due.over(nodes - 1, "e", "a"), Due.over(nodes - 1, "e", "b"));
                for (int r = 2; r < rules; r++) {
                    begun.rule("c", "d");
                }
                for (int again = 0; again < 2; again++) {
                    begun.is("meets with " + rules + " rules and " + nodes + " nodes", begun.it.meets(0, 1, 0),
                        nodes * 2 * rules <= 600 ? 1 : 2);
                }
            }
        }
    }
}
