/** One object, and what its calls answer beside what is due. */
final class Due {
    private static int wrong = 0;
    TermStrategies it = new TermStrategies();
    private final String promise;

    Due(String promise) {
        this.promise = promise;
    }

    void is(String call, long got, long want) {
        if (got != want) {
            wrong++;
            System.out.println(promise + ": " + call + " answered " + got + ", due is " + want);
        }
    }

    /** Lays a text into a shelf, as a row of bytes. */
    void lay(int s, String text) {
        is("row", it.row(s, 0, text.length()), 1);
        for (int i = 0; i < text.length(); i++) {
            is("set", it.set(s, i, text.charAt(i)), 1);
        }
    }

    /** Lays numbers into a shelf, as a row of shorts. */
    void layNumbers(int s, int... numbers) {
        is("row", it.row(s, 1, numbers.length), 1);
        for (int i = 0; i < numbers.length; i++) {
            is("set", it.set(s, i, numbers[i]), 1);
        }
    }

    /** A new term by its text, in shelf 7. */
    int term(String text) {
        lay(7, text);
        return it.term(7);
    }

    int rule(String left, String right) {
        int l = term(left);
        int r = term(right);
        int made = it.rule(l, r);
        it.drop();
        it.drop();
        return made;
    }

    /** The last term is as its text tells: by its nodes' signs alone, since these tell it all. */
    void reads(String call, int t, String text) {
        StringBuilder want = new StringBuilder();
        for (char c : text.toCharArray()) {
            if (c != '(' && c != ',' && c != ')') {
                want.append(c);
            }
        }
        StringBuilder got = new StringBuilder();
        for (int i = 0; i < it.termOf(t, 0); i++) {
            got.append((char) it.node(t, i));
        }
        if (!got.toString().equals(want.toString())) {
            wrong++;
            System.out.println(promise + ": " + call + " made " + got + ", due is " + want);
        }
    }

    /** How often each refusal has been counted, -1 first. */
    void refused(int... counts) {
        for (int k = 0; k < counts.length; k++) {
            is("status(" + (11 + k) + ")", it.status(11 + k), counts[k]);
        }
    }

    static String times(int n, String what) {
        return what.repeat(n);
    }

    /** An operator of one argument so many times over a text. */
    static String over(int n, String operator, String text) {
        return (operator + "(").repeat(n) + text + ")".repeat(n);
    }

    static void end() {
        System.out.println(wrong == 0 ? "all answers are as due" : wrong + " answers are not as due");
        if (wrong != 0) {
            System.exit(1);
        }
    }
}
