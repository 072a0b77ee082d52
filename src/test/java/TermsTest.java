/** Promises 9 to 16: terms, faults, operators that commute, nodes, paths, what is the same. */
public final class TermsTest {
    public static void main(String[] args) {
        term();
        fault();
        drop();
        commute();
        node();
        termOf();
        path();
        same();
        Due.end();
    }

    private static void term() {
        Due due = new Due("9");
        TermStrategies it = due.it;
        due.is("term(0)", it.term(0), -3);
        due.is("term(8)", it.term(8), -1);
        due.is("term(-1)", it.term(-1), -1);
        it.strategy(1, 0, 0);
        it.show(1, 0);
        due.is("term(1)", it.term(1), -2);
        String[] texts = {"a", "d", "u", "z", "e(b)", "h(z)", "i(a,b)", "l(k(c,j(d,v)),f(g(w)))"};
        for (int k = 0; k < texts.length; k++) {
            due.is("term of " + texts[k], due.term(texts[k]), k);
            due.reads("term of " + texts[k], k, texts[k]);
        }
        for (int sort = 0; sort < 4; sort++) {
            it.row(2, sort, 4);
            it.set(2, 0, 'f');
            it.set(2, 1, '(');
            it.set(2, 2, 'x');
            it.set(2, 3, ')');
            due.is("term of sort " + sort, it.term(2), 8 + sort);
            due.reads("term of sort " + sort, 8 + sort, "f(x)");
        }
        it.row(2, 3, 1);
        it.set(2, 0, (5L << 32) + 'a');
        due.is("term of a with high bits", it.term(2), 12);
        it.row(2, 2, 1);
        it.set(2, 0, 256 + 'a');
        due.is("term of an int that is no sign", it.term(2), -6);
        due.is("term of 40 signs", due.term(Due.over(39, "e", "a")), 13);
        due.is("term of 39 signs", due.term("i(" + Due.over(17, "e", "u") + "," + Due.over(19, "e", "a") + ")"), 14);
        for (int t = 15; t < 24; t++) {
            due.is("term of a", due.term("a"), t);
        }
        due.is("a term too many", due.term("a"), -7);
        due.is("a fault ahead of the room", due.term("("), -6);
        due.is("status(0)", it.status(0), 24);
        due.is("status(4)", it.status(4), 1 + 1 + 1 + 1 + 2 + 2 + 3 + 9 + 4 * 2 + 1 + 40 + 39 + 9);
        due.refused(2, 1, 1, 0, 0, 2, 1);
    }

    private static void fault() {
        Due due = new Due("10");
        TermStrategies it = due.it;
        faultOf(due, "", 0);
        faultOf(due, "m", 0);
        faultOf(due, "t", 0);
        faultOf(due, "{", 0);
        faultOf(due, "`", 0);
        faultOf(due, "A", 0);
        faultOf(due, "(a)", 0);
        faultOf(due, "ab", 1);
        faultOf(due, "a)", 1);
        faultOf(due, "a,b", 1);
        faultOf(due, "u(a)", 1);
        faultOf(due, "e", 1);
        faultOf(due, "ea", 1);
        faultOf(due, "e(", 2);
        faultOf(due, "e()", 2);
        faultOf(due, "e(a", 3);
        faultOf(due, "e(a,b)", 3);
        faultOf(due, "e(a))", 4);
        faultOf(due, "i(a)", 3);
        faultOf(due, "i(a,", 4);
        faultOf(due, "i(a,)", 4);
        faultOf(due, "i(a,b", 5);
        faultOf(due, "i(a,b,c)", 5);
        faultOf(due, "i(e(a),b)c", 9);
        faultOf(due, "i(e(a,b),b)", 5);
        faultOf(due, "i(i(a,b),", 9);
        faultOf(due, "i(i(a,b))", 8);
        faultOf(due, Due.over(40, "e", "a"), 80);
        faultOf(due, "i(" + Due.over(20, "e", "u") + "," + Due.over(18, "e", "a") + ")", 2 + 61 + 1 + 36);
        faultOf(due, "i(" + Due.over(20, "e", "u") + "," + Due.over(17, "e", "a") + ")", -1);
        it.drop();
        due.is("term of a fault", due.term("i(a"), -6);
        due.is("term(6), which holds nothing", it.term(6), -3);
        due.is("term(9)", it.term(9), -1);
        due.is("fault() of the latest that came to a row", it.fault(), 3);
        due.is("term of a", due.term("a"), 0);
        due.is("fault() behind a right row", it.fault(), -1);
        due.is("term of a fault", due.term("aa"), -6);
        for (int t = 1; t < 24; t++) {
            it.rewrite(0, 0, 0);
            it.replay(0, 0);
        }
        due.is("fault() still", it.fault(), 1);
        due.is("status(0)", it.status(0), 24);
        due.is("term of b, without room", due.term("b"), -7);
        due.is("fault() behind a right row, without room", it.fault(), -1);
        it.image();
        due.term("aba");
        it.restore();
        due.is("fault() behind restore()", it.fault(), 1);
    }

    private static void faultOf(Due due, String text, int want) {
        due.is("term of " + text, due.term(text), want < 0 ? due.it.status(0) - 1 : -6);
        due.is("fault() of " + text, due.it.fault(), want);
    }

    private static void drop() {
        Due due = new Due("11");
        TermStrategies it = due.it;
        due.is("drop()", it.drop(), -6);
        due.term("a");
        due.term("e(e(e(b)))");
        due.is("drop()", it.drop(), 1);
        due.is("node(1, 0)", it.node(1, 0), -1);
        due.is("status(4)", it.status(4), 1);
        due.is("term of c", due.term("c"), 1);
        due.reads("term of c", 1, "c");
        due.is("drop()", it.drop(), 1);
        due.is("drop()", it.drop(), 0);
        due.is("drop()", it.drop(), -6);
        due.refused(1, 0, 0, 0, 0, 2, 0);
    }

    private static void commute() {
        Due due = new Due("12");
        TermStrategies it = due.it;
        for (int sign = 'i'; sign <= 'l'; sign++) {
            due.is("commute(" + sign + ", false)", it.commute(sign, false), 0);
            due.is("commute(" + sign + ", true)", it.commute(sign, true), 0);
            due.is("commute(" + sign + ", true)", it.commute(sign, true), 1);
            due.is("status(3)", it.status(3), (2 << (sign - 'i')) - 1);
        }
        due.is("commute(106, false)", it.commute('j', false), 1);
        due.is("commute(106, false)", it.commute('j', false), 0);
        due.is("status(3)", it.status(3), 13);
        for (int sign : new int[] {'h', 'm', 'a', 'u', 'e', 0, -1, 'i' + 32, 'i' - 32, 'i' + 256}) {
            due.is("commute(" + sign + ", true)", it.commute(sign, true), -1);
        }
        due.is("status(3)", it.status(3), 13);
        due.refused(10, 0, 0, 0, 0, 0, 0);
    }

    private static void node() {
        Due due = new Due("13");
        TermStrategies it = due.it;
        due.is("node(0, 0)", it.node(0, 0), -1);
        due.term("l(e(u),k(b,f(c)))");
        String signs = "leukbfc";
        for (int i = 0; i < 7; i++) {
            due.is("node(0, " + i + ")", it.node(0, i), signs.charAt(i));
        }
        due.is("node(0, 7)", it.node(0, 7), -5);
        due.is("node(0, -1)", it.node(0, -1), -5);
        due.is("node(1, -1)", it.node(1, -1), -1);
        due.is("node(-1, 0)", it.node(-1, 0), -1);
        due.is("node(24, 0)", it.node(24, 0), -1);
        due.refused(4, 0, 0, 0, 2, 0, 0);
    }

    private static void termOf() {
        Due due = new Due("14");
        TermStrategies it = due.it;
        of(due, "a", 1, 1, 0);
        of(due, "w", 1, 1, 4);
        of(due, "e(e(z))", 3, 3, 32);
        of(due, "i(e(e(u)),j(x,v))", 7, 4, 1 + 8 + 2);
        of(due, "i(j(x,v),y)", 5, 3, 8 + 2 + 16);
        of(due, Due.over(39, "e", "u"), 40, 40, 1);
        due.is("termOf(0, 4)", it.termOf(0, 4), -5);
        due.is("termOf(0, -1)", it.termOf(0, -1), -5);
        due.is("termOf(6, 4)", it.termOf(6, 4), -1);
        due.is("termOf(-1, 0)", it.termOf(-1, 0), -1);
        due.rule("e(e(u))", "u");
        due.rule("j(u,a)", "u");
        int[] normal = {1, 1, 0, 0, 1, 0};
        for (int t = 0; t < 6; t++) {
            due.is("termOf(" + t + ", 3)", it.termOf(t, 3), normal[t]);
        }
        due.term("j(a,x)");
        due.is("termOf(6, 3)", it.termOf(6, 3), 1);
        it.commute('j', true);
        due.is("termOf(6, 3)", it.termOf(6, 3), 0);
        due.refused(2, 0, 0, 0, 2, 0, 0);
    }

    private static void of(Due due, String text, int nodes, int deep, int variables) {
        int t = due.term(text);
        due.is("nodes of " + text, due.it.termOf(t, 0), nodes);
        due.is("how deep " + text, due.it.termOf(t, 1), deep);
        due.is("variables of " + text, due.it.termOf(t, 2), variables);
        due.is("no rule fits " + text, due.it.termOf(t, 3), 1);
    }

    private static void path() {
        Due due = new Due("15");
        TermStrategies it = due.it;
        due.term("i(e(i(a,b)),i(e(c),e(d)))");
        long[] paths = {0, 1, 4, 13, 14, 2, 7, 22, 8, 25};
        for (int i = 0; i < paths.length; i++) {
            due.is("path(0, " + i + ")", it.path(0, i), paths[i]);
        }
        due.is("path(0, 10)", it.path(0, 10), -5);
        due.is("path(0, -1)", it.path(0, -1), -5);
        due.is("path(1, 0)", it.path(1, 0), -1);
        due.is("path(-1, 99)", it.path(-1, 99), -1);
        due.term(Due.over(39, "e", "u"));
        long path = 0;
        for (int i = 0; i < 40; i++) {
            due.is("path(1, " + i + ")", it.path(1, i), path);
            path = 3 * path + 1;
        }
        due.refused(2, 0, 0, 0, 2, 0, 0);
    }

    private static void same() {
        Due due = new Due("16");
        TermStrategies it = due.it;
        due.term("i(a,j(u,e(b)))");
        due.term("i(a,j(u,e(b)))");
        due.term("i(a,j(e(b),u))");
        due.term("i(j(e(b),u),a)");
        due.term("i(a,j(u,e(c)))");
        due.term("i(a,j(u,b))");
        due.is("same(0, 0)", it.same(0, 0), 0);
        due.is("same(0, 1)", it.same(0, 1), 0);
        sameAs(due, 2, 2, 2, 2);
        it.commute('j', true);
        sameAs(due, 1, 2, 2, 2);
        it.commute('i', true);
        sameAs(due, 1, 1, 2, 2);
        due.is("same(2, 3)", it.same(2, 3), 1);
        it.commute('j', false);
        sameAs(due, 2, 2, 2, 2);
        due.is("same(2, 3)", it.same(2, 3), 1);
        it.commute('j', true);
        due.term("j(i(a,b),i(a,c))");
        due.term("j(i(c,a),i(a,b))");
        due.term("j(i(a,b),i(a,b))");
        due.is("same(6, 7)", it.same(6, 7), 1);
        due.is("same(7, 6)", it.same(7, 6), 1);
        due.is("same(6, 8)", it.same(6, 8), 2);
        due.is("same(8, 6)", it.same(8, 6), 2);
        due.is("same(9, 0)", it.same(9, 0), -1);
        due.is("same(0, 9)", it.same(0, 9), -1);
        due.is("same(-1, -1)", it.same(-1, -1), -1);
        due.refused(3, 0, 0, 0, 0, 0, 0);
    }

    private static void sameAs(Due due, int... want) {
        for (int t = 0; t < 4; t++) {
            due.is("same(0, " + (t + 2) + ")", due.it.same(0, t + 2), want[t]);
            due.is("same(" + (t + 2) + ", 0)", due.it.same(t + 2, 0), want[t]);
        }
        due.is("same(0, 1)", due.it.same(0, 1), 0);
    }
}
