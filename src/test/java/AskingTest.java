/** Section II of the document: LEVELS, the BEST, what is solved, CUT, what is remembered, each way in which it ends. */
public final class AskingTest {
    private AskingTest() {
    }

    public static void main(String[] args) {
        levels();
        best();
        needsFromTheAskedScope();
        unknowns();
        whatWasSolvedGoesAgain();
        goalsOfOneGivenAreNew();
        cut();
        cutAsItIsNow();
        ambiguous();
        remembered();
        notRemembered();
        fortyRemembered();
        treesOfRemembered();
        goals201();
        goalsDeep();
        goalsLarge();
        treesLarge();
        whichEndIsAhead();
        manyUnknowns();
        Due.finish("AskingTest");
    }

    private static void due(String what, long got, long want) {
        Due.due(what, got, want);
    }

    private static void asked(GivenSearch x, String what, int... want) {
        for (int i = 0; i < want.length; i++) {
            due(what + ", asked " + i, x.asked(i), want[i]);
        }
    }

    /** How it ends, and the tree. */
    private static void ask(GivenSearch x, int k, String goal, int end, String tree) {
        due("ask " + goal, Due.ask(x, k, goal), end);
        Due.due("tree of " + goal, Due.tree(x), tree);
    }

    private static String lists(int n, String inner) {
        return "L(".repeat(n) + inner + ")".repeat(n);
    }

    private static void levels() {
        GivenSearch x = Due.told("{A(a);B;{A(Z)<-N;A(b)<-B;B<-N;{A(Y);C;}}}");
        ask(x, 2, "A(Y)", 0, "g5");
        due("LEVEL", x.node(0, 3), 0);
        ask(x, 2, "A(Z)", 0, "g3(g1)");
        due("the next LEVEL", x.node(0, 3), 1);
        due("CANDIDATES of that LEVEL", x.node(0, 4), 2);
        due("FAILED there", x.node(0, 5), 1);
        due("FAILED is told for its LEVEL alone", x.node(1, 5), 0);
        due("two LEVELS on", x.node(1, 3), 2);
        x.out(3, true);
        ask(x, 2, "A(Z)", 0, "g0");
        due("the last LEVEL", x.node(0, 3), 2);
        x.shut(0, true);
        ask(x, 2, "A(Z)", 1, "");
        ask(x, 0, "C", 1, "");
        due("NOT FOUND: nothing is TRIED", x.asked(4), 0);
    }

    private static void best() {
        GivenSearch x = Due.told("{P(a,b);P(a,a)<-N;P(Z,b)<-N;P(Z,Z)<-N;P(Y,Y)<-N;}");
        ask(x, 0, "P(Z,Z)", 0, "g0");
        due("CANDIDATES at first", x.node(0, 4), 4);
        due("FAILED in all rounds", x.node(0, 5), 3);
        due("none left", x.node(0, 6), 0);
        // P(Z,Z) first; then the two that are as good; then P(a,b).
        asked(x, "rounds", 0, 4, 2, 0, 4, 1, 0, 2, 1);
        x = Due.told("{P(a,b);P(a,a);P(Z,b)<-N;P(Z,Z)<-N;N<-M;}");
        ask(x, 0, "P(Z,Z)", 0, "g1");
        due("CANDIDATES", x.node(0, 4), 4);
        due("FAILED", x.node(0, 5), 2);
        due("neither TRIED nor CUT", x.node(0, 6), 1);
    }

    private static void needsFromTheAskedScope() {
        GivenSearch x = Due.told("{A<-B;B<-C;C;{B<-D;D;}}");
        ask(x, 1, "A", 0, "g0(g3(g4))");
        ask(x, 0, "A", 0, "g0(g1(g2))");
        due("remembered in its SCOPE alone", x.is(4), 6);
    }

    private static void unknowns() {
        GivenSearch x = Due.told("{F(Z,Y);G(a)<-F(a,b),E(b);E(Y);E(X);J(a,b)<-G(a),G(b);K(a,L(a));}");
        ask(x, 0, "J(p,q)", 0, "g4(g1(g0,g2),g1(g0,g2))");
        Due.due("solved by what is found", Due.answer(x), "J(Z,Z)");
        ask(x, 0, "K(p,q)", 0, "g5");
        Due.due("not solved", Due.answer(x), "K(a,L(a))");
        ask(x, 0, "K(p,p)", 1, "");
        ask(x, 0, "K(L(r),q)", 0, "g5");
        Due.due("solved in part", Due.answer(x), "K(L(a),L(L(a)))");
        ask(x, 0, "E(r)", 2, "");
        ask(x, 0, "q", 2, "");
    }

    private static void whatWasSolvedGoesAgain() {
        GivenSearch x = Due.told("{T(a)<-B(a);{T(b)<-Q(b),N;Q(Z);B(Y);}}");
        ask(x, 1, "T(x)", 0, "g0(g3)");
        Due.due("of a LEVEL that failed", Due.answer(x), "T(Y)");
        x = Due.told("{T(a)<-B(a);T(b)<-Q(b),N;B(Y);Q(Z);}");
        ask(x, 0, "T(x)", 0, "g0(g2)");
        Due.due("of one behind it that failed", Due.answer(x), "T(Y)");
        due("FAILED", x.node(0, 5), 1);
        x = Due.told("{T(b)<-Q(b),N;T(a)<-B(a);T(c)<-Q(c),M;B(Y);Q(Z);}");
        ask(x, 0, "T(x)", 0, "g1(g3)");
        Due.due("of two around it that failed", Due.answer(x), "T(Y)");
        due("FAILED", x.node(0, 5), 2);
        // What the first solved stands again, its tree too, after others that solved the same ones and others.
        x = Due.told("{T(a,b,c)<-U(a,b),U(b,c);T(a,b,c)<-U(c,b),U(b,a),N;U(d,e)<-B(d),C(e);B(Y);C(Y);}");
        ask(x, 0, "T(x,y,z)", 0, "g0(g2(g3,g4),g2(g3,g4))");
        Due.due("of the first", Due.answer(x), "T(Y,Y,Y)");
        Due.due("of the first, its NEEDS", Due.goal(x, 5), "B(Y)");
    }

    private static void goalsOfOneGivenAreNew() {
        GivenSearch x = Due.told("{A(a)<-B(a,b),B(b,c);B(a,b);}");
        ask(x, 0, "A(q)", 0, "g0(g1,g1)");
        Due.due("each time new", Due.goal(x, 2), "B(a,b)");
        x = Due.told("{A<-B(L(a),b),C(b);B(a,L(a));C(L(L(Z)));}");
        ask(x, 0, "A", 0, "g0(g1,g2)");
        Due.due("VARS of one letter in two GIVENS are others", Due.goal(x, 1), "B(L(Z),L(L(Z)))");
    }

    private static void cut() {
        GivenSearch x = Due.told("{A(a)<-A(L(a));}");
        due("grows", Due.ask(x, 0, "A(Z)"), 1);
        asked(x, "another COVER is TRIED", 1, 3, 0, 1, 2);
        due("none of them is remembered", x.is(4), 0);
        x = Due.told("{A(L(a))<-A(a);A(Z);}");
        ask(x, 0, "A(" + lists(5, "Z") + ")", 0, "g0(g0(g0(g0(g0(g1)))))");
        due("one that shrinks is not CUT", x.asked(3), 0);
        x = Due.told("{A(a)<-A(L(a));A(b)<-C(b);C(L(L(Z)));}");
        ask(x, 0, "A(L(Z))", 0, "g0(g1(g2))");
        asked(x, "one is CUT, another FOUND", 0, 4, 0, 1, 4, 3, 2, 3, 3);
        due("the one that is CUT FAILED", x.node(1, 5), 1);
        due("neither TRIED nor CUT", x.node(1, 6), 0);
        x = Due.told("{A<-B;B<-A;B<-C;C;}");
        due("the same GOAL: CUT, but FOUND by the other, twice", Due.ask(x, 0, "B"), 2);
        asked(x, "the same GOAL", 2, 5, 1, 1, 5);
        due("both", x.both(0), 1);
        due("both", x.both(1), 2);
        x = Due.told("{A(a)<-B(a);B(a)<-A(L(a));A(b)<-C(b);C(L(L(Z)));}");
        ask(x, 0, "A(L(L(Z)))", 0, "g2(g3)");
        asked(x, "the other way is CUT", 0, 5, 0, 1, 5, 2, 1, 4, 2);
        due("one FAILED", x.node(0, 5), 1);
        due("neither TRIED nor CUT", x.node(0, 6), 0);
        x = Due.told("{P(a,b)<-P(b,a);P(Z,Y)<-N;}");
        due("of the same SIZE", Due.ask(x, 0, "P(Z,Y)"), 1);
        asked(x, "of the same SIZE", 1, 3, 0, 1, 2);
    }

    private static void cutAsItIsNow() {
        // The GOAL A(q) under way is A(L(L(Z))) when its second NEED is ASKED: larger than A(L(Z)), so that is not CUT.
        GivenSearch x = Due.told("{A(a)<-S(a,b),T(b);T(L(a))<-A(L(a));S(L(L(Z)),L(Z))<-U;U;}");
        due("not CUT as it is now", Due.ask(x, 0, "A(q)"), 1);
        asked(x, "not CUT as it is now", 1, 6, 0, 0, 5);
        // A(q) of SIZE 2 is A(Z) when A(Z) is ASKED: the same COVER by then.
        x = Due.told("{A(a)<-S(a),A(a);S(Z);}");
        due("CUT as it is now", Due.ask(x, 0, "A(q)"), 1);
        asked(x, "CUT as it is now", 1, 3, 0, 1, 2);
        x = Due.told("{A(a)<-A(a),S(a);S(Z);}");
        due("CUT at once", Due.ask(x, 0, "A(q)"), 1);
        asked(x, "CUT at once", 1, 2, 0, 1, 1);
    }

    private static void ambiguous() {
        GivenSearch x = Due.told("{R(a)<-A(a,b);A(Z,Z)<-M;A(Z,Y);A(b,X)<-N;A(c,W);M;}");
        due("deep within", Due.ask(x, 0, "R(Z)"), 2);
        due("the first that did not FAIL", x.both(0), 1);
        due("the second that did not FAIL", x.both(1), 2);
        Due.due("the GOAL, ahead of its BEST", Due.answer(x), "A(Z,a)");
        due("TRIED", x.asked(4), 6);
        due("more special ones settle it", Due.ask(x, 0, "A(Z,Y)"), 0);
        x = Due.told("{A;B;A<-C;C;C;B<-D;D<-N;}");
        due("the third is TRIED too", Due.ask(x, 0, "A"), 2);
        Due.due("by what it needs", Due.answer(x), "C");
        due("by what it needs", x.both(0), 3);
        ask(x, 0, "B", 0, "g1");
        due("one that FAILED is no second", x.asked(4), 3);
        x = Due.told("{A;A;{A<-N;A;}}");
        ask(x, 1, "A", 0, "g3");
        due("a nearer LEVEL settles it", x.node(0, 5), 1);
        x = Due.told("{A(a)<-B,C;B;B;C;}");
        due("what is remembered stays, no more comes", Due.ask(x, 0, "A(Z)"), 2);
        due("what is remembered stays, no more comes", x.is(4), 0);
        x = Due.told("{A(a)<-C,B;B;B;C;}");
        due("what is remembered stays, no more comes", Due.ask(x, 0, "A(Z)"), 2);
        due("what is remembered stays, no more comes", x.is(4), 1);
    }

    private static void remembered() {
        GivenSearch x = Due.told("{A(a)<-B(a),B(a),N(a);B(L(a))<-C(a);C(Z);D(a)<-A(a);D(b)<-B(b);}");
        ask(x, 0, "D(L(Z))", 0, "g4(g1(g2))");
        // D; A; B, C; B again; N: NOT FOUND; B by the other: remembered though A FAILED.
        asked(x, "also of ways that FAILED", 0, 7, 2, 0, 5, 3, 2, 4, 3);
        due("D, A, B, C, N", x.is(4), 5);
        ask(x, 0, "A(L(Z))", 1, "");
        asked(x, "NOT FOUND is remembered", 1, 1, 1, 0, 0);
        ask(x, 0, "C(Z)", 0, "g2");
        asked(x, "as it was", 0, 1, 1, 0, 0, 1, 0, 1, 1);
        ask(x, 0, "C(q)", 0, "g2");
        asked(x, "one that is not CLOSED is not", 0, 1, 0, 0, 1);
        due("one that is not CLOSED is not", x.is(4), 5);
    }

    private static void notRemembered() {
        GivenSearch x = Due.told("{A(a)<-B(a);B(L(Z));R<-A(q),A(L(Z));}");
        ask(x, 0, "R", 0, "g2(g0(g1),g0(g1))");
        // A(q) was not CLOSED as it was ASKED, nor B(q): so the second A asks again.
        asked(x, "CLOSED as it was ASKED", 0, 5, 0, 0, 5);
        due("R, A(L(Z)), B(L(Z))", x.is(4), 3);
        x = Due.told("{A(a)<-A(L(a));A(b)<-C(b);C(L(L(Z)));D<-A(L(Z)),E;E;}");
        ask(x, 0, "D", 0, "g3(g0(g1(g2)),g4)");
        due("CUT while they were ASKED: C(L(L(Z))), C(L(Z)), E alone", x.is(4), 3);
        // A remembered one that is met cuts nothing: so what meets it is remembered.
        x = Due.told("{A<-B;B<-C;C;}");
        ask(x, 0, "B", 0, "g1(g2)");
        ask(x, 0, "A", 0, "g0(g1(g2))");
        asked(x, "met", 0, 2, 1, 0, 1, 3, 2, 2, 3);
        due("A, B, C", x.is(4), 3);
    }

    private static void fortyRemembered() {
        GivenSearch x = Due.told("{D(Z);D(L(a))<-D(a);E(Z);E(L(a))<-E(a);F(Z);F(L(a))<-F(a);G(Z);G(L(a))<-G(a);}");
        int[] known = {11, 22, 33, 40};
        for (int i = 0; i < 4; i++) {
            due("FOUND", Due.ask(x, 0, "DEFG".charAt(i) + "(" + lists(10, "Z") + ")"), 0);
            due("remembered", x.is(4), known[i]);
        }
        Due.ask(x, 0, "G(" + lists(10, "Z") + ")");
        asked(x, "the first seven of them alone", 0, 5, 1, 0, 4, 11, 10, 5, 2);
        Due.ask(x, 0, "D(" + lists(10, "Z") + ")");
        asked(x, "all of these", 0, 1, 1, 0, 0, 11, 10, 1, 2);
        due("no more then", x.is(4), 40);
        x.out(7, true);
        due("forgotten", x.is(4), 0);
        Due.ask(x, 0, "E(Z)");
        due("remembered again", x.is(4), 1);
    }

    private static void treesOfRemembered() {
        GivenSearch x = Due.told("{A<-C,B(L(Z));B(L(a))<-C,D(a,b);C;D(Z,q);{D(a,L(b))<-N;E<-A;D(Y,Y);}}");
        due("first", Due.ask(x, 1, "B(L(Z))"), 0);
        ask(x, 1, "E", 0, "g5(g0(g2,g1(g2,g3)))");
        asked(x, "met", 0, 4, 2, 0, 2, 6, 3, 3, 5);
        int[][] want = {
            {5, -1, -1, 0, 1, 0, 0, 1}, {0, 0, 0, 1, 1, 0, 0, 1}, {2, 1, 0, 1, 1, 0, 0, 1},
            {1, 1, 1, 1, 1, 0, 0, 3}, {2, 3, 0, 1, 1, 0, 0, 1}, {3, 3, 1, 1, 1, 0, 0, 3},
        };
        for (int k = 0; k < want.length; k++) {
            for (int what = 0; what < 8; what++) {
                due("node " + k + " " + what, x.node(k, what), want[k][what]);
            }
        }
        Due.due("GOALS as they were", Due.goal(x, 5), "D(Z,a)");
        Due.ask(x, 1, "E");
        asked(x, "the whole is met", 0, 1, 1, 0, 0, 6, 3, 1, 5);
        due("the NODE above", x.node(3, 1), 1);
        Due.due("GOALS as they were", Due.goal(x, 3), "B(L(Z))");
        // A GOAL of the tree that is too large is so when it is met, too.
        x = Due.told("{H(Z,Z);H(L(a),P(b,b))<-H(a,b);R<-H(" + lists(6, "Z") + ",q);S<-R;}");
        ask(x, 0, "R", 0, "g2(g1(g1(g1(g1(g1(g1(g0)))))))");
        ask(x, 0, "S", 0, "g3(g2(g1(g1(g1(g1(g1(g1(g0))))))))");
        asked(x, "met", 0, 2, 1);
        due("too large", x.node(2, 7), 101);
        due("too large", x.writeGoal(2), -1);
        due("not too large", x.node(3, 7), 70);
        Due.due("not too large", Due.goal(x, 7), "H(L(Z),P(Z,Z))");
    }

    /** Of 200 GOALS with what is asked for Q; none but R and Q is CLOSED. */
    private static String many(String q) {
        return "{T(a)<-U(a),U(b),U(c),U(d);U(a)<-V(a),V(b),V(c),V(d);V(a)<-W(a),W(b),W(c),W(d);W(a);"
            + "R<-T(a),T(b),U(a),Q;Q<-" + q + ";S<-R,T(a);X(a)<-T(a);X(b)<-T(b);}";
    }

    private static void goals201() {
        GivenSearch x = Due.told(many("V(a),W(b),W(c)"));
        due("200 GOALS", Due.ask(x, 0, "R"), 0);
        asked(x, "200 GOALS", 0, 200, 0, 0, 200, 200, 4, 5, 6);
        due("200 GOALS", x.is(4), 2);
        due("200 GOALS", x.writeTree(), 200 * 2 + 2 * 50 + 149);
        x = Due.told(many("V(a),W(b),W(c),W(d)"));
        due("a 201st GOAL", Due.ask(x, 0, "R"), 3);
        asked(x, "a 201st GOAL", 3, 200, 0, 0, 200, 0, 0, 5, 0);
        due("nothing more is remembered", x.is(4), 0);
        due("no tree", x.node(0, 0), -2);
        due("no answer", x.writeAnswer(), -1);
        due("without", x.without(3), 1);
        due("mends", x.mends(), 0);
        // A remembered one that is met is ASKED, too.
        x = Due.told("{T(a)<-U(a),U(a),U(a),U(a);U(a)<-V(a),V(a),V(a),V(a);V(a)<-W,W,W,W;W;R<-T(a),T(b),U(a),Q;Q<-W,W,W,W;"
            + "P<-V(a),W,W;M<-R,W;}");
        due("met ones count", Due.ask(x, 0, "R"), 0);
        asked(x, "met ones count", 0, 1 + 85 + 85 + 21 + 5, 63 + 64 + 16 + 4);
        due("met ones count", Due.ask(x, 0, "M"), 0);
        asked(x, "R and W are met", 0, 3, 2);
    }

    private static void goalsDeep() {
        StringBuilder text = new StringBuilder("{");
        for (char c = 'A'; c < 'T'; c++) {
            text.append(c).append("<-").append((char) (c + 1)).append(';');
        }
        GivenSearch x = Due.told(text + "T;Z<-A;}");
        due("20 in one another", Due.ask(x, 0, "A"), 0);
        asked(x, "20 in one another", 0, 20, 0, 0, 20, 20, 19, 20, 20);
        due("20 remembered", x.is(4), 20);
        due("met, not too deep", Due.ask(x, 0, "Z"), 0);
        asked(x, "met, not too deep", 0, 2, 1, 0, 1, 21, 20, 2, 21);
        x = Due.told(text + "T;Z<-A;}");
        due("one in 20 others", Due.ask(x, 0, "Z"), 4);
        asked(x, "one in 20 others", 4, 20, 0, 0, 20, 0, 0, 20, 0);
        due("nothing more is remembered", x.is(4), 0);
    }

    private static void goalsLarge() {
        String text = "{A(a)<-B(L(P(a,a)));C(a,b);D(a)<-C(a,b),A(a);B(b)<-";
        GivenSearch x = Due.told(text + "C(L(P(b,b)),P(b,b));}");
        ask(x, 0, "A(" + lists(10, "Z") + ")", 0, "g0(g3(g1))");
        due("SIZE 100", x.node(2, 7), 100);
        due("SIZE 100 is remembered", x.is(4), 3);
        String pair = "P(" + lists(10, "Z") + "," + lists(10, "Z") + ")";
        String large = "C(L(P(L(" + pair + "),L(" + pair + "))),P(L(" + pair + "),L(" + pair + ")))";
        Due.due("SIZE 100 is written", Due.goal(x, 2), large);
        x = Due.told(text + "C(L(P(b,b)),P(b,b));}");
        Due.ask(x, 0, "A(" + lists(10, "Z") + ")");
        ask(x, 0, "A(" + lists(10, "Z") + ")", 0, "g0(g3(g1))");
        due("SIZE 100 is met", x.asked(2), 1);
        Due.due("SIZE 100 is written as it was", Due.goal(x, 2), large);
        x = Due.told(text + "C(L(P(b,b)),L(P(b,b)));}");
        due("SIZE 101", Due.ask(x, 0, "A(" + lists(10, "Z") + ")"), 5);
        asked(x, "SIZE 101", 5, 2, 0, 0, 2, 0, 0, 2, 0);
        due("SIZE 101", Due.ask(x, 0, "D(" + lists(10, "Z") + ")"), 5);
        due("what is remembered stays", x.is(4), 0);
        due("not so large", Due.ask(x, 0, "A(" + lists(9, "Z") + ")"), 0);
        due("not so large", x.node(2, 7), 93);
    }

    private static void treesLarge() {
        String text = "{D(Z);D(L(a))<-D(a),D(a);E<-D(Z);R<-D(" + lists(6, "Z") + "),D(" + lists(5, "Z") + "),D(L(L(Z))),";
        GivenSearch x = Due.told(text + "E;}");
        due("200 NODES", Due.ask(x, 0, "R"), 0);
        asked(x, "200 NODES", 0, 1 + 7 + 6 + 1 + 1 + 2, 6 + 3, 0, 9, 200, 7, 8, 4);
        due("200 NODES", x.node(199, 1), 198);
        due("200 NODES", x.node(200, 1), -2);
        x = Due.told(text + "D(L(Z));}");
        due("201 NODES", Due.ask(x, 0, "R"), 6);
        asked(x, "201 NODES", 6, 1 + 7 + 6 + 3, 9, 0, 8, 0, 0, 8, 0);
        due("201 NODES: R is not remembered", x.is(4), 7);
        due("no tree", x.writeTree(), -1);
        due("255 NODES", Due.ask(x, 0, "D(" + lists(7, "Z") + ")"), 6);
        asked(x, "255 NODES", 6, 3, 2, 0, 1);
    }

    /** T, of 85 GOALS with three UNKNOWNS each, ahead of what must not be lost then. */
    private static void manyUnknowns() {
        String text = "{T(a,b,c)<-U(a,b,c),U(b,c,d),U(c,d,e),U(d,e,f);U(a,b,c)<-V(a,b,c),V(b,c,d),V(c,d,e),V(d,e,f);"
            + "V(a,b,c)<-W(a,b,c),W(b,c,d),W(c,d,e),W(d,e,f);W(a,b,c);C(Z);D(Y);E(a,a);";
        GivenSearch x = Due.told(text + "R<-T(a,b,c),T(a,b,c),E(d,L(d));}");
        due("none is put for what it stands in", Due.ask(x, 0, "R"), 1);
        asked(x, "none is put for what it stands in", 1, 1 + 85 + 85 + 1);
        x = Due.told(text + "R<-T(a,b,c),T(d,e,f),C(g),D(g);}");
        due("what was solved is known", Due.ask(x, 0, "R"), 1);
        x = Due.told(text + "R(a)<-T(d,e,f),T(d,e,g),C(a);R(b)<-N;R(c)<-D(c),C(c);}");
        due("what was solved stands again", Due.ask(x, 0, "R(q)"), 0);
        Due.due("what was solved stands again", Due.answer(x), "R(Z)");
        due("two FAILED", x.node(0, 5), 2);
    }

    private static void whichEndIsAhead() {
        // The 201st GOAL would lie in 20 others and be too large: 3; else the large one lies in 20 others: 4.
        StringBuilder chain = new StringBuilder();
        for (char c = 'A'; c < 'S'; c++) {
            chain.append(c).append("(a)<-").append((char) (c + 1)).append("(a);");
        }
        String wide = "S(a)<-T(P(P(a,a),P(a,a)));T(a)<-U(P(P(a,a),P(a,a)));";
        GivenSearch x = Due.told("{" + chain + wide + "}");
        due("4 ahead of 5", Due.ask(x, 0, "A(" + lists(9, "Z") + ")"), 4);
        asked(x, "4 ahead of 5", 4, 20, 0, 0, 20);
        due("5", Due.ask(x, 0, "B(" + lists(9, "Z") + ")"), 5);
        asked(x, "5", 5, 20 - 1, 0, 0, 20 - 1);
        String ahead = "W(a)<-X,V(a),V(b),V(c);V(a)<-X,X,X,X;X;Y(a)<-W(a),W(b),W(c),W(d);";
        x = Due.told("{" + chain.toString().replace("A(a)<-B(a)", "A(a)<-Y(b),Y(c),Y(d),B(a)")
            .replace("D(a)<-E(a)", "D(a)<-X,V(b),E(a)") + "S(a)<-T(a);T(a)<-U(a);" + ahead + "}");
        due("3 ahead of 4", Due.ask(x, 0, "A(Z)"), 3);
        asked(x, "3 ahead of 4", 3, 200);
    }
}
