/** The edges that the document names in "1. Terms and rules": a test for each sentence. */
public final class EdgesOfTermsTest {
    public static void main(String[] args) {
        calls();
        signs();
        nodes();
        numbersOfNodes();
        path();
        pathThatWraps();
        numbersOfTerms();
        commuteAtFirst();
        texts();
        faultWhereItCantStand();
        faultThatEndsTooEarly();
        faultOfA41stSign();
        faultBehindTheWhole();
        numbersOfRules();
        rulesAsTheyAreThen();
        leftIsNoVariable();
        variablesInRight();
        variableBoundTwice();
        constantAndOperator();
        turned();
        sixThatCommute();
        waysInOrder();
        fitsAndRewrites();
        Edge.end();
    }

    private static void calls() {
        Edge edge = Edge.of("An object is used for at most 512 calls after it has been made");
        for (int k = 0; k < 510; k++) {
            edge.is("drop()", -6);
        }
        edge.is("row(0, 0, 160)", 1).is("status(16)", 510);
    }

    private static void signs() {
        Edge edge = Edge.of("SIGNS: a to d CONSTANTS, e to h OPERATORS of one argument, i to l of two; u to z"
            + " VARIABLES.");
        for (char sign = 0; sign < 256; sign++) {
            boolean isConstant = sign >= 'a' && sign <= 'd';
            boolean isVariable = sign >= 'u' && sign <= 'z';
            boolean isOne = sign >= 'e' && sign <= 'h';
            boolean isTwo = sign >= 'i' && sign <= 'l';
            edge.anew().does("row(0, 2, 1)", "set(0, 0, " + (int) sign + ")");
            edge.is("term(0)", isConstant || isVariable ? 0 : -6);
            edge.is("fault()", isConstant || isVariable ? -1 : isOne || isTwo ? 1 : 0);
        }
        for (String one : new String[] {"e", "f", "g", "h"}) {
            edge.anew().faults(one + "(a)", -1).faults(one + "(a,b)", 3);
        }
        for (String two : new String[] {"i", "j", "k", "l"}) {
            edge.anew().faults(two + "(a,b)", -1).faults(two + "(a)", 3).faults(two + "(a,b,c)", 5);
        }
        edge.anew().faults("d(a)", 1).faults("u(a)", 1);
        edge.anew().terms("d", "u", "z").is("termOf(0, 2)", 0).is("termOf(1, 2)", 1).is("termOf(2, 2)", 32);
    }

    private static void nodes() {
        Edge edge = Edge.of("1 to 40 NODES (one for each SIGN in it)");
        edge.faults("", 0).terms("a").is("termOf(0, 0)", 1);
        edge.anew().terms(Edge.over(39, "e", "a")).is("termOf(0, 0)", 40).is("node(0, 39)", 'a');
        edge.anew().faults(Edge.over(40, "e", "a"), 80);
        String twenty = "i(".repeat(19) + "a" + ",b)".repeat(19);
        edge.anew().terms("e(" + twenty + ")").is("termOf(0, 0)", 40).is("node(0, 39)", 'b');
        edge.anew().faults("i(" + twenty + ",c)", 99);
    }

    private static void numbersOfNodes() {
        Edge.of("NODES have numbers, from 0 on: the whole one first, then those of its first argument, then those of"
            + " the second.")
            .terms("i(j(a,e(b)),k(c,d))")
            .is("node(0, 0)", 'i').is("node(0, 1)", 'j').is("node(0, 2)", 'a').is("node(0, 3)", 'e')
            .is("node(0, 4)", 'b')
            .is("node(0, 5)", 'k').is("node(0, 6)", 'c').is("node(0, 7)", 'd');
    }

    private static void path() {
        Edge edge = Edge.of("The PATH to a NODE: 0 for the whole; else 3 times the PATH to the one it is an argument"
            + " of, and 1 (first argument) or 2 (second)");
        edge.terms("a", "i(e(j(a,b)),l(c,f(d)))").is("path(0, 0)", 0);
        long[] paths = {0, 1, 4, 13, 14, 2, 7, 8, 25};
        for (int i = 0; i < paths.length; i++) {
            edge.is("path(1, " + i + ")", paths[i]);
        }
        // The longest way by second arguments: each of the 19 takes two of the 39 nodes.
        edge.anew().terms("i(a,".repeat(19) + "b" + ")".repeat(19)).is("path(0, 38)", 1162261466);
        edge.anew().terms(Edge.over(39, "e", "a")).is("path(0, 39)", 2026277576509488133L);
    }

    /** An argument that is worked on alone may grow to 40 nodes: what is rewritten there lies deeper than any term. */
    private static void pathThatWraps() {
        Edge edge = Edge.of("and 1 (first argument) or 2 (second): a long, wrapping.");
        edge.rule("a", Edge.over(20, "f", "a")).rule("a", "e(a)").rule("a", "c").rule("f(u)", "b");
        for (int r = 0; r < 4; r++) {
            edge.is("strategy(0, " + r + ", 0)", r);
        }
        edge.is("strategy(11, 1, 0)", 4).is("strategy(11, 2, 0)", 5);
        edge.is("strategy(3, 5, 3)", 6).is("strategy(3, 4, 6)", 7).is("strategy(3, 0, 7)", 8);
        edge.is("strategy(11, 8, 0)", 9).is("strategy(3, 0, 9)", 10);
        edge.makes(10, "a", Edge.over(20, "f", "b"),
            "0@0 0@1743392200 1@6078832729528464400 2@-210245885124158415 3@1743392200");
    }

    private static void numbersOfTerms() {
        Edge edge = Edge.of("TERMS have numbers, from 0 on, 24 at most.").lay(0, "a");
        edge.numbered("term(0)", 0, 22);
        edge.does("rule(0, 0)", "rule(0, 0)", "strategy(0, 0, 0)").is("term(0)", 23).is("node(23, 0)", 'a');
        edge.refuses("term(0)", -7).refuses("rewrite(0, 0, 0)", -7).refuses("run(0, 0)", -7)
            .refuses("replay(0, 0)", -7);
        edge.refuses("unify(0, 0)", -7).refuses("overlap(0, 1, 0, 0)", -7).refuses("node(24, 0)", -1);
        String[] makers = {"term(0)", "rewrite(0, 0, 0)", "run(0, 0)", "replay(0, 0)", "unify(0, 0)",
            "overlap(0, 1, 0, 0)"};
        for (String maker : makers) {
            edge.is("drop()", 23).is(maker, 23);
        }
        edge.is("status(0)", 24);
    }

    private static void commuteAtFirst() {
        Edge.of("An OPERATOR of two arguments may COMMUTE (none at first).")
            .is("status(3)", 0)
            .is("commute('i', false)", 0).is("commute('j', true)", 0).is("commute('k', false)", 0)
            .is("commute('l', true)", 0)
            .is("status(3)", 10)
            .refuses("commute('h', true)", -1).refuses("commute('m', true)", -1);
    }

    private static void texts() {
        Edge.of("its SIGN, behind an OPERATOR ( its argument, or two with , between, and ).")
            .faults("e(a)", -1).faults("i(a,b)", -1).faults("i(e(a),j(b,c))", -1)
            .faults("e[a]", 1).faults("e,a)", 1).faults("e(a,", 3).faults("i(a;b)", 3).faults("i(a)b)", 3)
            .faults("i(a,b(", 5)
            .faults("i(a,b,", 5).faults("i(,a)", 2).faults("e()", 2).faults("i(a,)", 4).faults("ea", 1).faults("iab", 1)
            .faults("e( a)", 2);
    }

    private static void faultWhereItCantStand() {
        Edge.of("The FAULT: the first place at which an element can't stand as such texts go on")
            .faults("(", 0).faults(")", 0).faults(",", 0).faults("m", 0).faults("e(m)", 2).faults("i(m,m)", 2)
            .faults("i(a,m", 4).faults("i(e(a,b),m)", 5).faults("i(e(a)),m)", 6).faults("e(ab", 3);
    }

    private static void faultThatEndsTooEarly() {
        Edge.of("(the number of elements, if it ends too early)")
            .faults("", 0).faults("e", 1).faults("e(", 2).faults("e(a", 3).faults("e(a)", -1)
            .faults("i", 1).faults("i(", 2).faults("i(a", 3).faults("i(a,", 4).faults("i(a,b", 5).faults("i(a,b)", -1)
            .faults("i(e(a),e(b)", 11).faults("i(e(a),e(b))", -1);
    }

    private static void faultOfA41stSign() {
        Edge edge = Edge.of("a 41st SIGN can't stand");
        edge.faults(Edge.over(39, "e", "a"), -1).faults(Edge.over(40, "e", "a"), 80);
        // The 40th sign itself stands, even where it wants arguments, for which there is no room.
        edge.anew().faults("e(".repeat(39) + "e", 79).faults("e(".repeat(39) + "e(", 80)
            .faults("e(".repeat(39) + "e(m", 80);
        edge.anew().faults("e(".repeat(39) + "i(", 80);
        // A fault ahead of the 41st sign, and the 41st sign ahead of another one.
        edge.anew().faults("e(".repeat(38) + "m(ea", 76).faults("e(".repeat(40) + "am", 80);
    }

    private static void faultBehindTheWhole() {
        Edge edge = Edge.of("an element behind the whole can't.");
        edge.faults("a", -1).faults("aa", 1).faults("a(", 1).faults("a)", 1).faults("a,", 1).faults("e(a))", 4)
            .faults("e(a),b", 4).faults("i(a,b)c", 6);
        edge.does("row(0, 1, 2)", "set(0, 0, 'a')").is("term(0)", -6).is("fault()", 1);
        edge.anew().faults(Edge.over(39, "e", "a") + "b", 118);
    }

    private static void numbersOfRules() {
        Edge edge = Edge.of("RULES have numbers, from 0 on, 12 at most").terms("a", "b");
        edge.numbered("rule(0, 1)", 0, 11);
        edge.is("ruleOf(11, true, 0)", 'b').refuses("rule(0, 1)", -7).refuses("ruleOf(12, true, 0)", -1)
            .is("status(1)", 12);
    }

    private static void rulesAsTheyAreThen() {
        Edge.of("LEFT and RIGHT, two TERMS as they are then")
            .terms("a", "e(b)").is("rule(0, 1)", 0)
            // Term 0 becomes e(b), and then others stand where both of them stood.
            .is("days(40)", 1).reads(0, "e(b)").is("ruleOf(0, false, 0)", 'a')
            .does("drop()", "drop()").terms("i(c,c)", "d")
            .is("ruleOf(0, false, 0)", 'a').is("ruleOf(0, true, 0)", 'e').is("ruleOf(0, true, 1)", 'b')
            .refuses("ruleOf(0, false, 1)", -5);
    }

    private static void leftIsNoVariable() {
        Edge edge = Edge.of("LEFT isn't a VARIABLE").terms("u", "z", "a", "e(u)");
        edge.refuses("rule(0, 0)", -6).refuses("rule(0, 2)", -6).refuses("rule(1, 1)", -6).refuses("rule(1, 2)", -6);
        edge.is("rule(2, 2)", 0).is("rule(3, 0)", 1);
    }

    private static void variablesInRight() {
        Edge edge = Edge.of("each VARIABLE in RIGHT is in LEFT.");
        edge.terms("e(u)", "v", "u", "i(u,v)", "i(v,w)", "k(k(u,v),k(w,k(x,k(y,z))))", "k(z,y)");
        edge.is("rule(0, 2)", 0).refuses("rule(0, 1)", -6).refuses("rule(0, 3)", -6).refuses("rule(3, 4)", -6);
        edge.is("rule(3, 1)", 1).is("rule(3, 0)", 2).is("rule(5, 6)", 3).refuses("rule(6, 5)", -6).is("rule(5, 5)", 4);
    }

    private static void variableBoundTwice() {
        Edge.of("a VARIABLE of the PATTERN is bound to the TERM, or must be bound to the same one (sign by sign)")
            .does("commute('i', true)")
            .terms("j(u,u)", "j(i(a,b),i(a,b))", "j(i(a,b),i(b,a))", "j(e(a),e(b))", "u", "j(a,a)")
            .is("bound(0, 1, 'u', 0)", 'i').is("bound(0, 1, 'u', 2)", 'b').is("bound(4, 3, 'u', 3)", 'e')
            // They are the same but for order, and that is not enough.
            .is("same(1, 2)", 1).refuses("bound(0, 2, 'u', 0)", -6).refuses("bound(0, 3, 'u', 0)", -6)
            .is("bound(0, 5, 'u', 0)", 'a');
    }

    private static void constantAndOperator() {
        Edge.of("a CONSTANT must be the same; an OPERATOR too, and its arguments MATCH")
            .terms("i(u,a)", "i(c,a)", "i(c,b)", "j(c,a)", "i(c,e(a))", "a", "v", "e(a)", "f(a)")
            .is("bound(0, 1, 'u', 0)", 'c').refuses("bound(0, 2, 'u', 0)", -6).refuses("bound(0, 3, 'u', 0)", -6)
            .refuses("bound(0, 4, 'u', 0)", -6).refuses("bound(5, 5, 'u', 0)", -5).refuses("bound(5, 6, 'u', 0)", -6)
            .refuses("bound(7, 8, 'u', 0)", -6).refuses("bound(7, 7, 'u', 0)", -5).refuses("bound(7, 5, 'u', 0)", -6);
    }

    private static void turned() {
        Edge edge = Edge.of("if that can't be and the OPERATOR COMMUTES: the first with the second, then the second"
            + " with the first");
        edge.terms("i(u,a)", "i(a,b)", "i(a,a)", "i(b,a)", "i(u,v)", "i(b,c)", "i(u,e(u))", "i(e(e(a)),e(a))");
        edge.is("bound(0, 2, 'u', 0)", 'a').refuses("bound(0, 1, 'u', 0)", -6);
        edge.is("commute('i', true)", 0).is("bound(0, 1, 'u', 0)", 'b').is("bound(0, 3, 'u', 0)", 'b');
        // As they stand they match, so they aren't turned.
        edge.is("bound(4, 5, 'u', 0)", 'b').is("bound(4, 5, 'v', 0)", 'c');
        // The pattern's first binds u to the term's second ahead of the pattern's second.
        edge.is("bound(6, 7, 'u', 0)", 'e').is("bound(6, 7, 'u', 1)", 'a').refuses("bound(6, 7, 'u', 2)", -5);
        // With operators of one argument within, turned and not.
        edge.terms("i(e(u),v)", "i(a,e(b))", "i(e(b),a)").is("bound(8, 9, 'u', 0)", 'b').is("bound(8, 9, 'v', 0)", 'a');
        edge.is("bound(8, 10, 'u', 0)", 'b').is("bound(8, 10, 'v', 0)", 'a').refuses("bound(8, 1, 'u', 0)", -6);
        edge.is("commute('i', false)", 1).is("commute('j', true)", 0).refuses("bound(0, 1, 'u', 0)", -6);
    }

    /** The term has each of the pattern's operators turned; those of the term itself aren't counted. */
    private static void sixThatCommute() {
        Edge edge = Edge.of("(in a PATTERN that has more than 6 OPERATORS that COMMUTE as if none did)");
        edge.does("commute('i', true)", "commute('j', true)", "commute('k', true)");
        edge.terms("i(j(k(i(j(i(u,a),a),a),a),a),a)", "i(a,j(a,k(a,i(a,j(a,i(a,b))))))");
        edge.is("bound(0, 1, 'u', 0)", 'b');
        edge.terms("l(i(j(k(i(j(i(u,a),a),a),a),a),a),u)", "l(i(a,j(a,k(a,i(a,j(a,i(a,b)))))),b)");
        edge.is("bound(2, 3, 'u', 0)", 'b');
        edge.is("commute('l', true)", 0).refuses("bound(2, 3, 'u', 0)", -6).is("bound(2, 2, 'u', 0)", 'u');
        edge.is("commute('l', false)", 1).is("bound(2, 3, 'u', 0)", 'b');
        edge.is("commute('k', false)", 1).is("commute('l', true)", 0).refuses("bound(2, 3, 'u', 0)", -6);
        edge.terms("i(u,a)", "i(a,i(b,i(b,i(b,i(b,i(b,i(b,b)))))))");
        edge.is("bound(4, 5, 'u', 0)", 'i');
        // Rules match as patterns do, by what commutes when they are asked.
        edge.anew().does("commute('i', true)").terms("i(i(i(i(i(i(u,a),a),a),a),a),a)", "u",
            "i(a,i(a,i(a,i(a,i(a,i(a,b))))))", "i(i(i(i(i(i(i(u,a),a),a),a),a),a),a)", "i(a,i(a,i(a,i(a,i(a,i(a,i(a,b)))))))");
        edge.is("rule(0, 1)", 0).is("rule(3, 1)", 1);
        edge.is("fits(0, 2, -1)", 1).is("fits(1, 4, -1)", 0).is("fits(0, 4, -1)", 2).is("fits(1, 3, -1)", 1);
    }

    private static void waysInOrder() {
        Edge edge = Edge.of("Each way to MATCH the first is tried with the second, the ways in this order; the first"
            + " MATCH of all that there is counts.");
        edge.does("commute('i', true)");
        edge.terms("j(i(u,v),w)", "j(i(a,b),c)", "j(i(u,v),u)", "j(i(a,b),b)", "i(i(u,v),i(w,x))", "i(i(a,b),i(c,d))");
        // Both ways do for the first: the earlier one, unless the second wants the other one.
        edge.is("bound(0, 1, 'u', 0)", 'a').is("bound(2, 3, 'u', 0)", 'b').is("bound(2, 3, 'v', 0)", 'a');
        edge.is("bound(4, 5, 'u', 0)", 'a').is("bound(4, 5, 'w', 0)", 'c');
        edge.terms("i(i(u,v),i(w,c))", "i(i(u,v),i(w,b))", "j(i(u,v),i(u,w))", "j(i(a,b),i(c,b))");
        // Ways of the second are tried ahead of other ways of the first, and those ahead of the whole turned.
        edge.is("bound(6, 5, 'u', 0)", 'a').is("bound(6, 5, 'w', 0)", 'd');
        edge.is("bound(7, 5, 'u', 0)", 'c').is("bound(7, 5, 'v', 0)", 'd').is("bound(7, 5, 'w', 0)", 'a');
        edge.is("bound(8, 9, 'u', 0)", 'b').is("bound(8, 9, 'v', 0)", 'a').is("bound(8, 9, 'w', 0)", 'c');
    }

    private static void fitsAndRewrites() {
        Edge edge = Edge.of("A RULE FITS at a NODE if LEFT MATCHES what is there; it REWRITES that to RIGHT with the"
            + " VARIABLES put in.");
        edge.rule("i(u,v)", "j(v,k(u,u))").rule("e(a)", "b").terms("e(i(e(a),u))");
        edge.is("fits(0, 0, -1)", 1).is("fits(0, 0, 0)", 1).is("fits(1, 0, 0)", 2).is("fits(1, 0, 1)", -1);
        edge.is("rewrite(0, 0, 1)", 1).reads(1, "e(j(u,k(e(a),e(a))))").is("rewrite(1, 0, 2)", 2).reads(2, "e(i(b,u))");
        edge.refuses("rewrite(0, 0, 0)", -6).refuses("rewrite(1, 0, 0)", -6).refuses("rewrite(1, 0, 3)", -6);
        edge.reads(0, "e(i(e(a),u))");
    }
}
