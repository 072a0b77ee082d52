/** Promises 34 to 39: judging, days, the seed, the image, counts. */
public final class RestTest {
    private static final int RULE = 0;
    private static final int KEEP = 1;
    private static final int THEN = 3;
    private static final int TRY = 5;
    private static final int REPEAT = 13;

    public static void main(String[] args) {
        judge();
        judgeRefusals();
        judgeTogether();
        days();
        daysBeyond();
        seed();
        image();
        restore();
        status();
        Due.end();
    }

    private static void judge() {
        Due due = new Due("34");
        TermStrategies it = due.it;
        due.rule("a", "b");
        due.term("a");
        due.term("b");
        due.term("i(a,b)");
        due.term("i(b,a)");
        int w = it.strategy(RULE, 0, 0);
        int tries = it.strategy(TRY, w, 0);
        due.layNumbers(0, 0, 1, 0, 1, 1, 1, 0, 0);
        due.is("judge(0, w, 0)", it.judge(0, w, 0), -1);
        due.is("judge(0, w, 1)", it.judge(0, w, 1), -1);
        due.is("judge(0, w, 2)", it.judge(0, w, 2), -1);
        due.is("judge(0, w, 3)", it.judge(0, w, 3), 2);
        due.is("judge(0, w, 4)", it.judge(0, w, 4), 2);
        due.is("judge(0, tries, 3)", it.judge(0, tries, 3), -1);
        due.is("judge(0, tries, 4)", it.judge(0, tries, 4), 3);
        due.layNumbers(1, 1, 1, 0, 1);
        due.is("judge(1, w, 2)", it.judge(1, w, 2), 0);
        // The same but for order is not the same.
        it.commute('i', true);
        due.layNumbers(2, 2, 2, 2, 3);
        due.is("judge(2, tries, 2)", it.judge(2, tries, 2), 1);
        due.is("status(0)", it.status(0), 4);
        due.is("status(6)", it.status(6), 0);
        // All is read as ints.
        it.row(3, 3, 2);
        it.set(3, 0, 7L << 32);
        it.set(3, 1, (3L << 32) + 1);
        due.is("judge(3, w, 1)", it.judge(3, w, 1), -1);
        it.row(3, 2, 2);
        it.set(3, 1, 256 + 1);
        due.is("judge(3, w, 1)", it.judge(3, w, 1), -16);
        it.row(4, 0, 160);
        due.is("judge(4, keep, 80)", it.judge(4, it.strategy(KEEP, 0, 0), 80), -1);
        due.refused(0, 0, 0, 0, 0, 1, 0);
    }

    private static void judgeRefusals() {
        Due due = new Due("34");
        TermStrategies it = due.it;
        due.term("a");
        int keep = it.strategy(KEEP, 0, 0);
        it.row(0, 0, 160);
        it.show(1, keep);
        due.is("judge(8, keep, -1)", it.judge(8, keep, -1), -11);
        due.is("judge(-1, keep, -1)", it.judge(-1, keep, -1), -11);
        due.is("judge(1, 1, -1)", it.judge(1, 1, -1), -11);
        due.is("judge(2, -1, -1)", it.judge(2, -1, -1), -11);
        due.is("judge(1, keep, -1)", it.judge(1, keep, -1), -12);
        due.is("judge(2, keep, -1)", it.judge(2, keep, -1), -13);
        due.is("judge(0, keep, -1)", it.judge(0, keep, -1), -14);
        due.is("judge(0, keep, 81)", it.judge(0, keep, 81), -15);
        due.is("judge(0, keep, 2147483647)", it.judge(0, keep, Integer.MAX_VALUE), -15);
        due.layNumbers(3, 0, 0, 9, 0, 0);
        due.is("judge(3, keep, 3)", it.judge(3, keep, 3), -15);
        due.is("judge(3, keep, 2)", it.judge(3, keep, 2), -16);
        due.is("judge(3, keep, 1)", it.judge(3, keep, 1), -1);
        due.layNumbers(3, 0, 0, 0, 1);
        due.is("judge(3, keep, 2)", it.judge(3, keep, 2), -16);
        due.layNumbers(3, -1, 0);
        due.is("judge(3, keep, 1)", it.judge(3, keep, 1), -16);
        due.refused(4, 1, 1, 1, 3, 3, 0);
        // All terms are looked at ahead of the runs: the first two would be told otherwise.
        due.term("b");
        due.layNumbers(3, 0, 1, 0, 2);
        due.is("judge(3, keep, 2)", it.judge(3, keep, 2), -16);
        due.is("judge(3, keep, 1)", it.judge(3, keep, 1), 0);
    }

    /** Rewritings and beginnings of all runs count together, and those of other calls don't. */
    private static void judgeTogether() {
        Due due = new Due("34");
        TermStrategies it = due.it;
        due.rule("a", "a");
        int w = it.strategy(RULE, 0, 0);
        due.term("a");
        it.row(0, 0, 160);
        due.is("40 rewritings", it.judge(0, w, 40), -1);
        due.is("41 rewritings", it.judge(0, w, 41), 40);
        due.is("41 rewritings again", it.judge(0, w, 80), 40);
        int three = it.strategy(THEN, w, it.strategy(THEN, w, w));
        due.is("3 rewritings each", it.judge(0, three, 13), -1);
        due.is("3 rewritings each", it.judge(0, three, 14), 13);
        int keep = it.strategy(KEEP, 0, 0);
        int two = it.strategy(THEN, keep, keep);
        int four = it.strategy(THEN, two, two);
        due.is("7 beginnings each", it.judge(0, four, 80), -1);
        int eight = it.strategy(THEN, four, keep);
        due.is("9 beginnings each", it.judge(0, eight, 80), 66);
        int ten = it.strategy(TRY, eight, 0);
        due.is("10 beginnings each", it.judge(0, ten, 60), -1);
        due.is("10 beginnings each", it.judge(0, ten, 61), 60);
        due.is("run of three", it.run(three, 0), 1);
        due.is("trial of three", it.trial(three, 0, 2), 3);
        due.is("endless", it.judge(0, it.strategy(REPEAT, keep, 0), 1), 0);
        due.is("3 rewritings each", it.judge(0, three, 13), -1);
    }

    private static void days() {
        Due due = new Due("35");
        TermStrategies it = due.it;
        due.is("days(0)", it.days(0), -5);
        due.term("i(a,i(a,a))");
        due.is("days(41) without a rule", it.days(41), -5);
        due.rule("a", "e(a)");
        due.rule("e(e(u))", "u");
        due.rule("i(u,i(v,w))", "i(i(u,v),w)");
        due.is("days(0)", it.days(0), -6);
        due.is("days(41)", it.days(41), -6);
        due.is("days(-1)", it.days(-1), -6);
        due.term("e(e(e(a)))");
        due.is("status(5)", it.status(5), 1);
        due.refused(0, 0, 0, 0, 2, 3, 0);
        // By hand: SEED times 1103515245 and 12345, its upper 16 bits modulo 3 (the rule), and so on modulo 2 (the term).
        int seed = 1;
        int[] draws = new int[8];
        for (int k = 0; k < 8; k++) {
            seed = seed * 1103515245 + 12345;
            draws[k] = (seed >>> 16) % (k % 2 == 0 ? 3 : 2);
        }
        String[] now = {"i(a,i(a,a))", "e(e(e(a)))"};
        int count = 0;
        for (int day = 0; day < 4; day++) {
            String[] made = rewrittenOnce(draws[2 * day], now[draws[2 * day + 1]]);
            count += made == null ? 0 : 1;
            if (made != null) {
                now[draws[2 * day + 1]] = made[0];
            }
        }
        due.is("days(4)", it.days(4), count);
        due.is("status(5)", it.status(5), seed);
        due.reads("term 0", 0, now[0]);
        due.reads("term 1", 1, now[1]);
        due.is("status(0)", it.status(0), 2);

        Due many = new Due("35");
        many.term("a");
        many.rule("a", "b");
        many.rule("b", "a");
        int here = 0;
        int turns = 0;
        seed = 1;
        for (int day = 0; day < 40; day++) {
            seed = seed * 1103515245 + 12345;
            if ((seed >>> 16) % 2 == here) {
                turns++;
                here = 1 - here;
            }
            seed = seed * 1103515245 + 12345;
        }
        many.is("days(40)", many.it.days(40), turns);
        many.is("node(0, 0)", many.it.node(0, 0), 'a' + here);
        many.is("status(5)", many.it.status(5), seed);
        many.is("days(1)", many.it.days(1), (seed * 1103515245 + 12345 >>> 16) % 2 == here ? 1 : 0);
        many.it.drop();
        many.is("days(1) without a term", many.it.days(1), -5);
    }

    /** What the three rules make of a text at the least node; null: they don't fit. */
    private static String[] rewrittenOnce(int r, String text) {
        int at;
        switch (r) {
            case 0:
                at = text.indexOf('a');
                return at < 0 ? null : new String[] {text.substring(0, at) + "e(a)" + text.substring(at + 1)};
            case 1:
                at = text.indexOf("e(e(");
                if (at < 0) {
                    return null;
                }
                int end = at + 4;
                for (int open = 2; open > 0; end++) {
                    open += text.charAt(end) == '(' ? 1 : text.charAt(end) == ')' ? -1 : 0;
                }
                return new String[] {text.substring(0, at) + text.substring(at + 4, end - 2) + text.substring(end)};
            default:
                // The first i whose second argument is an i: with these texts it is the whole, or none.
                int comma = -1;
                int open = 0;
                for (int i = 0; i < text.length(); i++) {
                    open += text.charAt(i) == '(' ? 1 : text.charAt(i) == ')' ? -1 : 0;
                    if (comma < 0 && open == 1 && text.charAt(i) == ',') {
                        comma = i;
                    }
                }
                if (comma < 0 || text.charAt(comma + 1) != 'i') {
                    return null;
                }
                String one = text.substring(2, comma);
                String[] inner = text.substring(comma + 3, text.length() - 2).split(",");
                return new String[] {"i(i(" + one + "," + inner[0] + ")," + inner[1] + ")"};
        }
    }

    private static void daysBeyond() {
        Due due = new Due("35");
        TermStrategies it = due.it;
        due.rule("e(u)", "i(u,u)");
        due.term(Due.over(20, "e", "a"));
        due.is("days(40), which is above 40 nodes", it.days(40), 0);
        due.reads("term 0", 0, Due.over(20, "e", "a"));
        it.drop();
        due.term(Due.over(19, "e", "a"));
        due.is("days(1), to 39 nodes", it.days(1), 1);
        due.is("termOf(0, 0)", it.termOf(0, 0), 39);
        due.is("node(0, 0)", it.node(0, 0), 'i');
        due.is("days(1), the least node alone is tried", it.days(1), 0);
        due.refused(0, 0, 0, 0, 0, 0, 0);
    }

    private static void seed() {
        Due due = new Due("36");
        TermStrategies it = due.it;
        due.is("seed(7)", it.seed(7), 1);
        due.is("seed(-5)", it.seed(-5), 7);
        due.is("status(5)", it.status(5), -5);
        due.is("seed(2147483647)", it.seed(Integer.MAX_VALUE), -5);
        due.is("seed(-2147483648)", it.seed(Integer.MIN_VALUE), Integer.MAX_VALUE);
        due.rule("a", "a");
        due.term("a");
        due.is("days(1)", it.days(1), 1);
        int seed = Integer.MIN_VALUE * 1103515245 + 12345;
        due.is("seed(0)", it.seed(0), seed * 1103515245 + 12345);
        due.refused(0, 0, 0, 0, 0, 0, 0);
    }

    private static void image() {
        Due due = new Due("37");
        TermStrategies it = due.it;
        due.is("image()", it.image(), 0);
        due.is("restore()", it.restore(), 0);
        due.term("a");
        due.is("image()", it.image(), 1);
        due.term("b");
        due.term("c");
        due.is("image()", it.image(), 3);
        it.drop();
        it.drop();
        it.drop();
        due.is("restore(), as the latest one has it", it.restore(), 3);
        due.reads("term 2", 2, "c");
        due.refused(0, 0, 0, 0, 0, 0, 0);
    }

    private static void restore() {
        Due due = new Due("38");
        TermStrategies it = due.it;
        due.is("restore()", it.restore(), -6);
        due.rule("a", "b");
        due.term("e(a)");
        due.term("a");
        int w = it.strategy(RULE, 0, 0);
        it.strategy(TRY, w, 0);
        it.strategy(THEN, 1, 0);
        it.strategy(6, 2, 0);
        it.commute('j', true);
        it.seed(77);
        it.show(0, 1);
        due.is("image()", it.image(), 2);

        it.drop();
        it.drop();
        due.term("k(c,c)");
        due.rule("b", "c");
        it.commute('j', false);
        it.commute('l', true);
        it.seed(78);
        it.strategy(RULE, 1, 0);
        it.strategy(THEN, 1, 4);
        it.show(1, 4);
        it.show(7, 5);
        it.show(3, 0);
        it.show(0, 5);
        it.show(5, 3);
        due.lay(4, "a");
        it.row(6, 0, 1);
        it.set(6, 0, 'a');
        due.is("term(6)", it.term(6), 1);
        due.is("run(5, 1)", it.run(5, 1), 2);
        it.row(6, 0, 2);
        it.set(6, 0, 'a');
        due.is("term(6)", it.term(6), -6);
        due.is("restore()", it.restore(), 2);

        due.is("status(0)", it.status(0), 2);
        due.reads("term 0", 0, "e(a)");
        due.reads("term 1", 1, "a");
        due.is("status(1)", it.status(1), 1);
        due.is("ruleOf(1, false, 0)", it.ruleOf(1, false, 0), -1);
        due.is("ruleOf(0, true, 0)", it.ruleOf(0, true, 0), 'b');
        due.is("status(2)", it.status(2), 4);
        int[][] strategies = {{RULE, 0, -1}, {TRY, 0, -1}, {THEN, 1, 0}, {6, 2, -1}, {-5, -5, -5}};
        for (int w2 = 0; w2 < 5; w2++) {
            for (int what = 0; what < 3; what++) {
                due.is("strategyOf(" + w2 + ", " + what + ")", it.strategyOf(w2, what), strategies[w2][what]);
            }
        }
        due.is("says(5, 4)", it.says(5, 4), 5);
        due.is("status(3)", it.status(3), 2);
        due.is("status(5)", it.status(5), 77);
        int[] held = {-1, -1, -1, 0, 100, 3, 100, -1};
        for (int s = 0; s < 8; s++) {
            due.is("holds(" + s + ")", it.holds(s), held[s]);
        }
        due.is("element(4, 0)", it.element(4, 0), 'a');
        // The trace, the fault and the refusals are as they were.
        due.is("status(6)", it.status(6), 2);
        due.is("trace(1)", it.trace(1), 1);
        due.is("fault()", it.fault(), 1);
        due.refused(1, 0, 0, 0, 3, 2, 0);

        // The image is still there, and what is made anew is another thing than what was.
        it.strategy(KEEP, 0, 0);
        it.show(1, 4);
        due.rule("b", "d");
        due.is("ruleOf(1, true, 0)", it.ruleOf(1, true, 0), 'd');
        it.drop();
        due.is("restore()", it.restore(), 2);
        due.is("holds(1)", it.holds(1), -1);
        due.is("status(1)", it.status(1), 1);
        due.is("run(0, 1)", it.run(0, 1), 2);
        due.reads("run(0, 1)", 2, "b");
        due.is("restore()", it.restore(), 2);
    }

    private static void status() {
        Due due = new Due("39");
        TermStrategies it = due.it;
        due.term("e(a)");
        due.term("i(a,b)");
        due.rule("a", "b");
        it.strategy(RULE, 0, 0);
        it.strategy(TRY, 0, 0);
        it.strategy(KEEP, 0, 0);
        it.commute('i', true);
        it.commute('l', true);
        it.seed(-9);
        due.term("a");
        it.run(0, 2);
        int[] want = {4, 1, 3, 9, 2 + 3 + 1 + 1, -9, 1, -1, -1, -1, -1};
        for (int what = 0; what <= 10; what++) {
            due.is("status(" + what + ")", it.status(what), want[what]);
        }
        for (int what : new int[] {-1, 7, 10, 18, 19, 100, Integer.MAX_VALUE, Integer.MIN_VALUE}) {
            due.is("status(" + what + ")", it.status(what), -1);
        }
        due.refused(0, 0, 0, 0, 0, 0, 0);
        it.row(9, 0, 0);
        it.show(0, 0);
        it.set(0, 0, 0);
        it.set(0, 0, 0);
        for (int k = 0; k < 3; k++) {
            it.set(1, 0, 0);
        }
        for (int k = 0; k < 4; k++) {
            it.row(0, 0, -1);
        }
        for (int k = 0; k < 5; k++) {
            it.node(0, 9);
        }
        for (int k = 0; k < 6; k++) {
            it.restore();
        }
        for (int k = 0; k < 7; k++) {
            it.row(0, 0, 161);
        }
        due.refused(1, 2, 3, 4, 5, 6, 7);
    }
}
