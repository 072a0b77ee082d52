/** Promises 1 to 8: a new object, rows, shelves and what strategies in them say. */
public final class RowsTest {
    public static void main(String[] args) {
        newObject();
        row();
        set();
        copy();
        element();
        show();
        holds();
        says();
        Due.end();
    }

    private static void newObject() {
        Due due = new Due("1");
        due.is("NONE", TermStrategies.NONE, -1);
        for (int what = 0; what < 7; what++) {
            due.is("status(" + what + ")", due.it.status(what), what == 5 ? 1 : 0);
        }
        due.refused(0, 0, 0, 0, 0, 0, 0);
        for (int s = 0; s < 8; s++) {
            due.is("holds(" + s + ")", due.it.holds(s), -1);
        }
        due.is("fault()", due.it.fault(), -1);
        due.is("trace(0)", due.it.trace(0), -1);
        due.is("termOf(0, 0)", due.it.termOf(0, 0), -1);
        due.is("ruleOf(0, false, 0)", due.it.ruleOf(0, false, 0), -1);
        due.is("strategyOf(0, 0)", due.it.strategyOf(0, 0), -5);
        due.is("restore()", due.it.restore(), -6);
    }

    private static void row() {
        Due due = new Due("2");
        TermStrategies it = due.it;
        due.is("row(0, 0, 0)", it.row(0, 0, 0), 1);
        due.is("row(7, 3, 160)", it.row(7, 3, 160), 1);
        due.is("holds(0)", it.holds(0), 100);
        due.is("holds(7)", it.holds(7), 103);
        due.is("row(8, 9, -1)", it.row(8, 9, -1), -1);
        due.is("row(-1, 0, 0)", it.row(-1, 0, 0), -1);
        due.is("row(0, 4, -1)", it.row(0, 4, -1), -4);
        due.is("row(0, 4, 161)", it.row(0, 4, 161), -6);
        due.is("row(0, -1, 1)", it.row(0, -1, 1), -6);
        due.is("row(0, 0, 161)", it.row(0, 0, 161), -7);
        due.is("holds(0)", it.holds(0), 100);
        due.refused(2, 0, 0, 1, 0, 2, 1);
        due.is("set(7, 159, 5)", it.set(7, 159, 5), 1);
        due.is("row(7, 2, 160)", it.row(7, 2, 160), 1);
        due.is("element(7, 159)", it.element(7, 159), 0);
        due.is("set(7, 0, 5)", it.set(7, 0, 5), 1);
        due.is("row(7, 2, 160)", it.row(7, 2, 160), 1);
        due.is("element(7, 0)", it.element(7, 0), 0);
    }

    private static void set() {
        Due due = new Due("3");
        TermStrategies it = due.it;
        due.is("set(0, 0, 1)", it.set(0, 0, 1), -3);
        long v = 0x1234_5678_9abc_def0L;
        long[] kept = {(byte) v, (short) v, (int) v, v};
        for (int sort = 0; sort < 4; sort++) {
            due.is("row", it.row(sort, sort, 3), 1);
            due.is("set(" + sort + ", 2, v)", it.set(sort, 2, v), 1);
            due.is("element(" + sort + ", 2)", it.element(sort, 2), kept[sort]);
            due.is("element(" + sort + ", 1)", it.element(sort, 1), 0);
        }
        it.set(0, 0, 128);
        due.is("element(0, 0)", it.element(0, 0), -128);
        it.set(1, 0, 32768);
        due.is("element(1, 0)", it.element(1, 0), -32768);
        it.set(2, 0, 1L << 31);
        due.is("element(2, 0)", it.element(2, 0), Integer.MIN_VALUE);
        due.is("set(0, 3, 1)", it.set(0, 3, 1), -5);
        due.is("set(0, -1, 1)", it.set(0, -1, 1), -5);
        due.is("set(8, 0, 1)", it.set(8, 0, 1), -1);
        it.strategy(1, 0, 0);
        it.show(5, 0);
        due.is("set(5, 0, 1)", it.set(5, 0, 1), -2);
        due.refused(1, 1, 1, 0, 2, 0, 0);
    }

    private static void copy() {
        Due due = new Due("4");
        TermStrategies it = due.it;
        due.layNumbers(0, 1, 2, 3, 4, 5);
        due.layNumbers(1, 10, 20, 30);
        due.is("copy(0, 1, 1, 0, 2)", it.copy(0, 1, 1, 0, 2), 1);
        row(due, 1, 2, 3, 30);
        due.is("copy(0, 0, 0, 1, 4)", it.copy(0, 0, 0, 1, 4), 1);
        row(due, 0, 1, 1, 2, 3, 4);
        due.is("copy(0, 0, 1, 0, 4)", it.copy(0, 0, 1, 0, 4), 1);
        row(due, 0, 1, 2, 3, 4, 4);
        due.is("copy(0, 0, 2, 0, 3)", it.copy(0, 0, 2, 0, 3), 1);
        row(due, 0, 3, 4, 4, 4, 4);
        due.is("copy(0, 0, 0, 2, 2)", it.copy(0, 0, 0, 2, 2), 1);
        row(due, 0, 3, 4, 3, 4, 4);
        due.is("copy(0, 1, 5, 3, 0)", it.copy(0, 1, 5, 3, 0), 1);
        due.is("copy(0, 1, 6, 0, 0)", it.copy(0, 1, 6, 0, 0), -5);
        due.is("copy(0, 1, 0, 0, 4)", it.copy(0, 1, 0, 0, 4), -5);
        due.is("copy(1, 0, 0, 0, 4)", it.copy(1, 0, 0, 0, 4), -5);
        due.is("copy(0, 1, -1, 0, 1)", it.copy(0, 1, -1, 0, 1), -5);
        due.is("copy(0, 1, 0, -1, 1)", it.copy(0, 1, 0, -1, 1), -5);
        due.is("copy(0, 1, 1, 1, 2147483647)", it.copy(0, 1, 1, 1, Integer.MAX_VALUE), -5);
        due.is("copy(0, 1, -1, 0, -1)", it.copy(0, 1, -1, 0, -1), -4);
        due.is("copy(0, 2, 0, 0, -1)", it.copy(0, 2, 0, 0, -1), -3);
        due.is("copy(2, 0, 0, 0, -1)", it.copy(2, 0, 0, 0, -1), -3);
        it.row(3, 0, 5);
        due.is("copy(0, 3, 0, 0, -1)", it.copy(0, 3, 0, 0, -1), -2);
        it.strategy(1, 0, 0);
        it.show(4, 0);
        due.is("copy(4, 2, 0, 0, 0)", it.copy(4, 2, 0, 0, 0), -2);
        due.is("copy(2, 4, 0, 0, 0)", it.copy(2, 4, 0, 0, 0), -2);
        due.is("copy(4, 8, 0, 0, 0)", it.copy(4, 8, 0, 0, 0), -1);
        due.is("copy(-1, 4, 0, 0, 0)", it.copy(-1, 4, 0, 0, 0), -1);
        row(due, 0, 3, 4, 3, 4, 4);
        row(due, 1, 2, 3, 30);
        due.refused(2, 3, 2, 1, 6, 0, 0);
    }

    private static void row(Due due, int s, int... want) {
        for (int i = 0; i < want.length; i++) {
            due.is("element(" + s + ", " + i + ")", due.it.element(s, i), want[i]);
        }
    }

    private static void element() {
        Due due = new Due("5");
        TermStrategies it = due.it;
        it.row(0, 3, 2);
        it.set(0, 1, Long.MIN_VALUE + 7);
        due.is("element(0, 1)", it.element(0, 1), Long.MIN_VALUE + 7);
        due.is("element(0, 0)", it.element(0, 0), 0);
        it.row(1, 3, 1);
        it.set(1, 0, 9);
        due.is("element(0, 160)", it.element(0, 160), 0);
        due.is("element(0, 2)", it.element(0, 2), 0);
        due.is("element(1, -1)", it.element(1, -1), 0);
        due.is("element(8, 0)", it.element(8, 0), 0);
        due.is("element(-1, 160)", it.element(-1, 160), 0);
        due.is("element(3, 0)", it.element(3, 0), 0);
        it.strategy(1, 0, 0);
        it.show(0, 0);
        due.is("element(0, 1)", it.element(0, 1), 0);
        due.refused(0, 0, 0, 0, 0, 0, 0);
    }

    private static void show() {
        Due due = new Due("6");
        TermStrategies it = due.it;
        due.is("show(0, 0)", it.show(0, 0), -1);
        it.strategy(1, 0, 0);
        it.strategy(2, 0, 0);
        due.is("show(0, 1)", it.show(0, 1), 1);
        due.is("holds(0)", it.holds(0), 1);
        due.is("show(0, -1)", it.show(0, -1), 0);
        due.is("holds(0)", it.holds(0), -1);
        due.is("show(0, 2)", it.show(0, 2), -1);
        due.is("show(0, -2)", it.show(0, -2), -1);
        due.is("show(8, 0)", it.show(8, 0), -1);
        due.is("show(-1, -1)", it.show(-1, -1), -1);
        it.row(0, 2, 3);
        due.is("show(0, 0)", it.show(0, 0), 1);
        due.is("row(0, 1, 1)", it.row(0, 1, 1), 1);
        due.is("show(0, -1)", it.show(0, -1), 0);
        due.is("holds(0)", it.holds(0), -1);
        due.refused(5, 0, 0, 0, 0, 0, 0);
    }

    private static void holds() {
        Due due = new Due("7");
        TermStrategies it = due.it;
        for (int sort = 0; sort < 4; sort++) {
            it.row(sort, sort, 0);
            due.is("holds(" + sort + ")", it.holds(sort), 100 + sort);
        }
        for (int w = 0; w < 24; w++) {
            it.strategy(1, 0, 0);
            it.show(4, w);
            due.is("holds(4)", it.holds(4), w);
        }
        due.is("holds(5)", it.holds(5), -1);
        due.is("holds(8)", it.holds(8), -1);
        due.is("holds(-1)", it.holds(-1), -1);
        due.refused(0, 0, 0, 0, 0, 0, 0);
    }

    private static void says() {
        Due due = new Due("8");
        TermStrategies it = due.it;
        due.rule("a", "b");
        due.rule("b", "c");
        int[] leaves = {it.strategy(0, 1, 0), it.strategy(1, 5, 5), it.strategy(2, 5, 5)};
        int[] said = {1, 99, 98};
        for (int k = 0; k < 3; k++) {
            saysAll(due, leaves[k], k, said[k], -2, -2, -2);
        }
        saysAll(due, it.strategy(3, 1, 2), 3, -2, -2, 102, -2);
        saysAll(due, it.strategy(4, 3, 0), 4, -2, -2, 300, -2);
        saysAll(due, it.strategy(5, 4, 0), 5, -2, 4, -2, -2);
        for (int kind = 6; kind <= 12; kind++) {
            saysAll(due, it.strategy(kind, 5, 0), kind, -2, 5, -2, 7);
        }
        saysAll(due, it.strategy(13, 2, 0), 13, -2, 2, -2, -2);
        due.is("says(8, 0)", it.says(8, 0), -1);
        due.is("says(-1, 0)", it.says(-1, 0), -1);
        it.row(1, 0, 1);
        due.is("says(1, 5)", it.says(1, 5), -1);
        due.is("says(2, -1)", it.says(2, -1), -1);
        due.is("says(1, 0)", it.says(1, 0), -2);
        due.is("says(2, 4)", it.says(2, 4), -3);
        due.is("status(11)", it.status(11), 4);
        due.is("status(13)", it.status(13), 1);

        Due many = new Due("8");
        int w = many.it.strategy(1, 0, 0);
        for (int k = 0; k < 8; k++) {
            w = many.it.strategy(3, w, w);
        }
        saysAll(many, many.it.strategy(6, w, 0), 6, -2, 8, -2, 512);
        w = many.it.strategy(3, w, 6);
        w = many.it.strategy(3, w, 7);
        saysAll(many, many.it.strategy(6, w, 0), 6, -2, 11, -2, 512 + 1 + 127 + 1 + 255);
        w = many.it.strategy(4, 11, 5);
        w = many.it.strategy(4, w, 3);
        w = many.it.strategy(4, w, 2);
        w = many.it.strategy(4, w, 1);
        saysAll(many, many.it.strategy(6, w, 0), 6, -2, 16, -2, 895 + 64 + 16 + 8 + 4 + 1);
        saysAll(many, many.it.strategy(6, 17, 0), 6, -2, 17, -2, 989);
        w = many.it.strategy(4, 17, 2);
        saysAll(many, many.it.strategy(6, w, 0), 6, -2, 19, -2, 988 + 1 + 7 + 1);
        w = many.it.strategy(3, 20, 1);
        saysAll(many, many.it.strategy(6, w, 0), 6, -2, 21, -2, 1000);
    }

    private static void saysAll(Due due, int w, int... want) {
        due.is("show(0, " + w + ")", due.it.show(0, w), 1);
        for (int as = 0; as < 5; as++) {
            due.is("says of " + w + ", " + as, due.it.says(0, as), want[as]);
        }
    }
}
