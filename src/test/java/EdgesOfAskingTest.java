/** Section II of the document: each of its sentences that names a boundary, by itself. */
public final class EdgesOfAskingTest {
    private static final String TOP = "{S(Z);S(L(a))<-S(a);";

    private EdgesOfAskingTest() {
    }

    public static void main(String[] args) {
        rememberedAndClosed();
        rememberedInThatScope();
        levels6();
        levelsShut();
        levelsWithoutAny();
        rounds();
        candidates24();
        bestWhereverItStands();
        justOneOrTwo();
        threeOfTheBest();
        failsByOneNeed();
        cutBySize();
        cutByCover();
        cutOfVars();
        cutOfTheSameGiven();
        cutOfThoseUnderWay();
        closedAsItWasAsked();
        rememberedWithoutCuts();
        rememberedAtMost40();
        rememberedAtMost40InAll();
        whatForgets();
        whatForgetsNot();
        goals200();
        goalsOfEachAsking();
        others20();
        sizes100();
        endsInTheirOrder();
        nodes200();
        nodesOfOneThatFails();
        nodesAndTwoThatAreAsGood();
        notAskedAnyMore();
        notTriedAnyMore();
        nothingMoreIsRemembered();
        treesAtTheirSmallest();
        treesDeeperThan20();
        putForItself();
        Due.finish("EdgesOfAskingTest");
    }

    private static void due(String what, long got, long want) {
        Due.due(what, got, want);
    }

    private static void asked(GivenSearch x, String what, int... want) {
        for (int i = 0; i < want.length; i++) {
            due(what + ", asked " + i, x.asked(i), want[i]);
        }
    }

    private static void ask(GivenSearch x, int k, String goal, int end, String tree) {
        due("ask " + goal, Due.ask(x, k, goal), end);
        Due.due("tree of " + goal, Due.tree(x), tree);
    }

    private static String lists(int n, String inner) {
        return "L(".repeat(n) + inner + ")".repeat(n);
    }

    // ---- (1)

    /** "Is it CLOSED, as UNKNOWNS are solved so far, and remembered". */
    private static void rememberedAndClosed() {
        GivenSearch x = Due.told(TOP + "F(L(Z));G(b);R<-F(a),S(a);H(Z);H(Y);Q<-G(a),H(a);}");
        ask(x, 0, "S(L(Z))", 0, "g1(g0)");
        ask(x, 0, "R", 0, "g4(g2,g1(g0))");
        asked(x, "solved so far: met", 0, 3, 1, 0, 2);
        ask(x, 0, "F(q)", 0, "g2");
        ask(x, 0, "F(q)", 0, "g2");
        asked(x, "not CLOSED: not met", 0, 1, 0, 0, 1);
        ask(x, 0, "F(L(Z))", 0, "g2");
        asked(x, "it was not CLOSED as it was ASKED", 0, 1, 0, 0, 1);
        ask(x, 0, "F(L(Z))", 0, "g2");
        asked(x, "CLOSED: met", 0, 1, 1, 0, 0);
        ask(x, 0, "H(Z)", 0, "g5");
        due("not solved: AMBIGUOUS", Due.ask(x, 0, "Q"), 2);
        asked(x, "not solved: none is met", 2, 3, 0, 0, 4);
    }

    /** "remembered in that SCOPE". */
    private static void rememberedInThatScope() {
        GivenSearch x = Due.told(TOP + "{}{S(Y);}}");
        ask(x, 0, "S(Z)", 0, "g0");
        ask(x, 1, "S(Z)", 0, "g0");
        asked(x, "of another SCOPE", 0, 1, 0, 0, 1);
        due("of another SCOPE", x.is(4), 2);
        ask(x, 2, "S(Y)", 0, "g2");
        ask(x, 1, "S(Y)", 1, "");
        asked(x, "of another SCOPE", 1, 1, 0, 0, 0);
        ask(x, 2, "S(Y)", 0, "g2");
        asked(x, "of that SCOPE", 0, 1, 1, 0, 0);
        ask(x, 0, "S(Y)", 1, "");
        asked(x, "of another SCOPE", 1, 1, 0, 0, 0);
        ask(x, 1, "S(Y)", 1, "");
        asked(x, "of that SCOPE, NOT FOUND", 1, 1, 1, 0, 0);
        due("all of them", x.is(4), 5);
    }

    // ---- (2), (3)

    private static GivenSearch nested(int from) {
        StringBuilder text = new StringBuilder();
        for (int k = 0; k < 6; k++) {
            text.append('{').append(k <= from ? "A;" : "B;").append("N<-M;");
        }
        return Due.told(text.append("}".repeat(6)).toString());
    }

    /** "the SCOPE's own GIVENS, then those of the SCOPE around it, and so on": up to six LEVELS. */
    private static void levels6() {
        for (int from = 0; from < 6; from++) {
            GivenSearch x = nested(from);
            for (int k = 0; k < 6; k++) {
                int home = Math.min(k, from);
                ask(x, k, "A", 0, "g" + 2 * home);
                due("LEVEL of it, asked in " + k, x.node(0, 3), k - home);
                due("CANDIDATES of that LEVEL alone", x.node(0, 4), 1);
                due("B of a SCOPE", Due.ask(x, k, "B"), k > from ? 0 : 1);
            }
            due("behind the last LEVEL", Due.ask(x, 5, "N"), 1);
            asked(x, "each LEVEL was looked at", 1, 7, 5, 0, 6);
        }
    }

    /** "of a SCOPE that is not SHUT": those in it and around it are others. */
    private static void levelsShut() {
        GivenSearch x = nested(5);
        for (int k = 5; k >= 0; k--) {
            ask(x, 5, "A", 0, "g" + 2 * k);
            due("LEVEL", x.node(0, 3), 5 - k);
            x.shut(k, true);
        }
        due("all are SHUT", x.is(3), 63);
        ask(x, 5, "A", 1, "");
        asked(x, "all are SHUT", 1, 1, 0, 0, 0);
        x.shut(0, false);
        ask(x, 5, "A", 0, "g0");
        due("the last LEVEL alone", x.node(0, 3), 5);
        ask(x, 0, "A", 0, "g0");
        x.out(0, true);
        ask(x, 5, "A", 1, "");
    }

    private static void levelsWithoutAny() {
        GivenSearch x = Due.told("{A<-B;A<-C;{{A<-D;A<-E;{D<-C;}}}}");
        ask(x, 3, "A", 1, "");
        // A; D with its C by the LEVEL 1 and E; B and C by the last one.
        asked(x, "all LEVELS FAILED", 1, 6, 1, 0, 5);
        due("ask", Due.scopes(x, "{A<-B;A;{{A<-D;A<-E;{D<-C;}}}}"), 5);
        ask(x, 3, "A", 0, "g1");
        due("FAILED there alone", x.node(0, 5), 1);
        due("CANDIDATES there alone", x.node(0, 4), 2);
        due("not TRIED there alone", x.node(0, 6), 0);
        due("LEVEL", x.node(0, 3), 3);
    }

    /** "the BEST of those left are TRIED likewise; when none is left": up to twelve rounds of one each. */
    private static void rounds() {
        String[] chain = {"P(a,b)", "P(a,P(b,c))", "P(a,P(b,P(c,d)))", "P(a,P(b,P(c,P(d,e))))",
            "P(a,P(b,P(c,P(d,P(e,f)))))", "P(a,P(b,P(c,P(d,P(e,L(f))))))", "P(a,P(b,P(c,P(d,P(a,L(f))))))",
            "P(a,P(b,P(c,P(a,P(a,L(f))))))", "P(a,P(b,P(a,P(a,P(a,L(f))))))", "P(a,P(a,P(a,P(a,P(a,L(f))))))",
            "P(a,P(a,P(a,P(a,P(a,L(a))))))", "P(Z,P(Z,P(Z,P(Z,P(Z,L(Z))))))"};
        String goal = chain[chain.length - 1];
        for (int well = 0; well <= chain.length; well++) {
            StringBuilder text = new StringBuilder("{{}");
            for (int i = 0; i < chain.length; i++) {
                text.append(chain[i]).append(i == well ? ";" : "<-N;");
            }
            GivenSearch x = Due.told(text + "}");
            boolean isFound = well < chain.length;
            ask(x, well % 2, goal, isFound ? 0 : 1, isFound ? "g" + well : "");
            due("TRIED in all rounds", x.asked(4), isFound ? chain.length - well : chain.length);
            if (isFound) {
                due("LEVEL", x.node(0, 3), well % 2);
                due("CANDIDATES at first", x.node(0, 4), chain.length);
                due("FAILED in all rounds", x.node(0, 5), chain.length - 1 - well);
                due("not TRIED", x.node(0, 6), well);
            }
        }
    }

    private static void candidates24() {
        for (int well = 0; well < 24; well++) {
            GivenSearch x = Due.told("{" + "A(Z)<-N;".repeat(well) + "A(Z);" + "A(Z)<-N;".repeat(23 - well) + "}");
            ask(x, 0, "A(Z)", 0, "g" + well);
            due("CANDIDATES", x.node(0, 4), 24);
            due("FAILED", x.node(0, 5), 23);
            due("not TRIED", x.node(0, 6), 0);
            asked(x, "all are TRIED", 0, 24, 22, 0, 24);
        }
        GivenSearch x = Due.told("{" + "A(a);".repeat(23) + "A(Z);}");
        ask(x, 0, "A(Z)", 0, "g23");
        due("CANDIDATES", x.node(0, 4), 24);
        due("none FAILED", x.node(0, 5), 0);
        due("not TRIED", x.node(0, 6), 23);
        due("not TRIED", x.asked(4), 1);
        due("23 are as good", Due.ask(x, 0, "A(Y)"), 2);
        due("all of the BEST are TRIED", x.asked(4), 23);
    }

    /** "Just one did not FAIL: the GOAL is FOUND by it. Two or more: AMBIGUOUS." */
    private static void justOneOrTwo() {
        for (int i = 0; i < 24; i += 5) {
            for (int j = i + 1; j < 24; j += 4) {
                StringBuilder text = new StringBuilder("{");
                for (int g = 0; g < 24; g++) {
                    text.append(g == i || g == j ? "A;" : "A<-N;");
                }
                GivenSearch x = Due.told(text + "}");
                due("two", Due.ask(x, 0, "A"), 2);
                due("the first", x.both(0), i);
                due("the second", x.both(1), j);
                due("the others, too", x.asked(4), 24);
                Due.due("for which GOAL", Due.answer(x), "A");
                x.out(i, true);
                ask(x, 0, "A", 0, "g" + j);
                x.out(i, false);
                x.out(j, true);
                ask(x, 0, "A", 0, "g" + i);
                x.out(i, true);
                ask(x, 0, "A", 1, "");
            }
        }
    }

    /** "(the first two of the BEST that did not FAIL, and for which GOAL, are told)". */
    private static void threeOfTheBest() {
        GivenSearch x = Due.told("{A(Z,a)<-N;A(b,c);A(Z,Y)<-M;A(b,Y)<-M;A(Z,c);A(Z,d);M;R(a)<-A(b,a);}");
        // A(Z,Y) is the BEST by itself for a GOAL that it suits.
        ask(x, 0, "A(Z,Y)", 0, "g2(g6)");
        x.out(2, true);
        due("three are as good", Due.ask(x, 0, "R(X)"), 2);
        due("the first", x.both(0), 4);
        due("the second", x.both(1), 5);
        Due.due("for which GOAL, ahead of its BEST", Due.answer(x), "A(a,X)");
        due("the BEST of the LEVEL", Due.ask(x, 0, "R(Y)"), 2);
        due("the first", x.both(0), 3);
        due("the second", x.both(1), 4);
        Due.due("for which GOAL, ahead of its BEST", Due.answer(x), "A(a,Y)");
    }

    /** "it FAILS, if one of these isn't FOUND": the first, the last, one of four; what is behind isn't ASKED. */
    private static void failsByOneNeed() {
        for (int n = 0; n <= 4; n++) {
            StringBuilder text = new StringBuilder("{A(a)<-");
            for (int i = 0; i < 4; i++) {
                text.append(i == 0 ? "" : ",").append(i == n ? "N(a)" : "B(a)");
            }
            GivenSearch x = Due.told(text + ";B(Z);}");
            due("NEED " + n + " isn't FOUND", Due.ask(x, 0, "A(q)"), n < 4 ? 1 : 0);
            asked(x, "NEED " + n + " isn't FOUND", n < 4 ? 1 : 0, n < 4 ? n + 2 : 5, Math.max(0, Math.min(n, 4) - 2));
            Due.due("what was solved goes again", Due.answer(x), n < 4 ? "" : "A(Z)");
        }
    }

    // ---- CUT

    /** One that suits any GOAL needs one that it suits: how many are TRIED for this GOAL, the last one being CUT. */
    private static void cut(String goal, String need, int tried) {
        GivenSearch x = Due.told("{a<-" + need + ";}");
        ask(x, 0, goal, 1, "");
        asked(x, goal + " needs " + need, 1, tried + 1, 0, 1, tried);
        due(goal + " needs " + need + ", remembered", x.is(4), 0);
    }

    /** "with a GOAL of no greater SIZE". */
    private static void cutBySize() {
        cut("A", "A", 1);
        cut("P(A,A)", "P(A,A)", 1);
        cut("P(A,A)", "P(A,A,A)", 1);
        cut("P(A,A,A)", "P(A,A)", 2);
        cut("P(A)", "P(P(P(A)))", 1);
        cut("P(P(A))", "P(A)", 2);
        cut("P(P(P(A,A),A),P(P(P(A))))", "P(P(P(A,A),A),P(P(A,P)))", 1);
        cut("P(P(P(A,A),A),P(P(P(A))))", "P(P(P(A,A),A),P(P(A)))", 2);
        cut("P(A,P(A,P(A,P(A,P(A,A)))))", "P(P(P(P(P(A,A),A),A),A),A)", 1);
    }

    /** "and of the same COVER": the set of its CONS' letters. */
    private static void cutByCover() {
        cut("P(A,B)", "A(B,P)", 1);
        cut("P(A,B)", "B(P(A))", 1);
        cut("P(A,B)", "P(A,C)", 2);
        cut("P(A,B)", "P(A,B,C)", 2);
        cut("P(A,B)", "P(A,A)", 2);
        cut("P(A,A)", "P(A,B)", 2);
        cut("Z(A)", "A(Z,Z)", 1);
        cut("Y(A)", "Z(A)", 2);
        cut("Z(A)", "Z(B)", 2);
        cut("A", "A(A)", 1);
        cut("A(A(A,A),A)", "A(A(A),A,A)", 1);
    }

    private static void cutOfVars() {
        cut("q", "b", 1);
        cut("Z", "b", 2);
        cut("q", "Z", 2);
        cut("A(q)", "A(b)", 1);
        cut("A(q)", "A(B)", 2);
        cut("A(B)", "A(b)", 2);
        cut("A(q,r)", "A(b)", 2);
        cut("A(q)", "A(b,c)", 1);
        cut("A(q,r)", "A(b,b)", 1);
    }

    /** "is the same GIVEN": another one that is as it is is another one. */
    private static void cutOfTheSameGiven() {
        GivenSearch x = Due.told("{a<-N;a<-N;}");
        ask(x, 0, "N", 1, "");
        asked(x, "two alike", 1, 5, 0, 6, 4, 0, 0, 3);
        x = Due.told("{A<-A;A<-B;B;}");
        ask(x, 0, "A", 2, "");
        asked(x, "it FAILS at once, another doesn't", 2, 4, 1, 1, 4);
        x = Due.told("{A<-A;{A<-A;A<-N;{A;}}}");
        ask(x, 1, "A", 1, "");
        // A by the first: N, A by the one around: N; N; A by the one around: A by the first: N; N.
        asked(x, "three for one GOAL", 1, 10, 4, 6, 9, 0, 0, 4, 0);
    }

    /** "if among those under way (a GIVEN that is TRIED, ..)": the one around, one far around; not one that is done with. */
    private static void cutOfThoseUnderWay() {
        GivenSearch x = Due.told("{A<-B;B<-C;C<-D;D<-E;E<-A,F;F;}");
        ask(x, 0, "A", 1, "");
        asked(x, "far around", 1, 6, 0, 1, 5, 0, 0, 6);
        ask(x, 0, "C", 1, "");
        asked(x, "far around, from within", 1, 6, 0, 1, 5);
        due("none was remembered", x.is(4), 0);
        x = Due.told("{R<-S(a),S(b),T;T<-S(c);S(d)<-U(d);U(Z);}");
        ask(x, 0, "R", 0, "g0(g2(g3),g2(g3),g1(g2(g3)))");
        asked(x, "done with", 0, 8, 0, 0, 8);
        x = Due.told("{R<-S(a),T;T<-R;S(b);}");
        ask(x, 0, "R", 1, "");
        asked(x, "under way though its first NEED is done with", 1, 4, 0, 1, 3);
        x = Due.told("{R<-T;R;T<-U;T<-R;{R<-T;}}");
        ask(x, 1, "R", 0, "g4(g3(g1))");
        asked(x, "a CUT one leaves the others", 0, 6, 1, 2, 6);
    }

    // ---- what is remembered

    /** "a GOAL that was CLOSED as it was ASKED, when it is FOUND or NOT FOUND". */
    private static void closedAsItWasAsked() {
        GivenSearch x = Due.told("{A(Z);B(a)<-A(a);C(a)<-N,A(a);D(b)<-A(b),B(b);}");
        int[] known = {0, 0, 0, 1, 2, 3, 5, 5};
        String[] goals = {"A(q)", "B(q)", "A(Z", "A(Z)", "A(Y)", "B(Z)", "C(Z)", "E(q)"};
        for (int i = 0; i < goals.length; i++) {
            Due.ask(x, 0, goals[i]);
            due("remembered by " + goals[i], x.is(4), known[i]);
        }
        due("its second NEED is met", Due.ask(x, 0, "D(q)"), 0);
        asked(x, "its second NEED is met", 0, 3, 1, 0, 2);
        due("not one more", x.is(4), 5);
    }

    /** "and nothing was CUT while it was ASKED (a remembered one that is met cuts nothing)". */
    private static void rememberedWithoutCuts() {
        GivenSearch x = Due.told("{A<-B,C;B<-B;{B;E<-D;D<-B,C;C;}}");
        x.out(2, true);
        ask(x, 1, "A", 1, "");
        asked(x, "CUT below", 1, 2 + 1, 0, 1, 2);
        due("neither is remembered", x.is(4), 0);
        x.out(2, false);
        ask(x, 1, "B", 0, "g2");
        ask(x, 1, "E", 0, "g3(g4(g2,g5))");
        asked(x, "met", 0, 4, 1, 0, 3);
        due("B, E, D, C", x.is(4), 4);
        x = Due.told("{R<-A,B,C;A<-A;A;B;C<-N;{A;}}");
        ask(x, 1, "R", 1, "");
        due("A by the nearer, B, C, N and R", x.is(4), 5);
        x = Due.told("{R<-B,A,C;A(a)<-A(a);A<-D;D<-A;D;B;C;}");
        x.out(2, true);
        ask(x, 0, "R", 1, "");
        due("B, A, and R", x.is(4), 3);
        x.out(2, false);
        due("what is CUT FAILS, another doesn't", Due.ask(x, 0, "R"), 0);
        asked(x, "what is CUT FAILS, another doesn't", 0, 6, 0, 1, 6);
        due("B, C: neither A nor D nor R", x.is(4), 2);
    }

    /** "at most 40 in all (no more then)". */
    private static void rememberedAtMost40() {
        GivenSearch x = Due.told("{A;B;C;D;{}}");
        String[] goals = new String[45];
        for (int i = 0; i < 45; i++) {
            goals[i] = (char) ('A' + i % 8) + "(" + lists(i / 8, "Z") + ")";
            due("NOT FOUND", Due.ask(x, 0, goals[i]), 1);
            due("remembered", x.is(4), Math.min(i + 1, 40));
        }
        for (int i = 0; i < 45; i++) {
            due("NOT FOUND again", Due.ask(x, 0, goals[i]), 1);
            due("met: " + i, x.asked(2), i < 40 ? 1 : 0);
        }
        due("no more then", x.is(4), 40);
        due("one that is FOUND", Due.ask(x, 0, "A"), 0);
        due("no more then", x.is(4), 40);
        due("one that is FOUND", Due.ask(x, 0, "A"), 0);
        due("it isn't met", x.asked(2), 0);
    }

    private static void rememberedAtMost40InAll() {
        GivenSearch x = Due.told("{" + "{}".repeat(7) + "}");
        int asked = 0;
        for (int n = 0; n < 7; n++) {
            for (int k = 0; k < 8; k++) {
                due("NOT FOUND", Due.ask(x, k, lists(n, "Z")), 1);
                asked++;
                due("remembered in all SCOPES", x.is(4), Math.min(asked, 40));
            }
        }
        due("the last of them", Due.ask(x, 7, lists(4, "Z")), 1);
        due("the last of them is met", x.asked(2), 1);
        due("the one behind", Due.ask(x, 0, lists(5, "Z")), 1);
        due("the one behind isn't", x.asked(2), 0);
        x = Due.told(TOP + "}");
        due("39 at first", fill(x, 39), 39);
        ask(x, 0, "S(L(Z))", 0, "g1(g0)");
        due("the inner one alone has room", x.is(4), 40);
        ask(x, 0, "S(L(L(Z)))", 0, "g1(g1(g0))");
        asked(x, "S(Z) alone is met", 0, 3, 1, 0, 2);
    }

    private static int fill(GivenSearch x, int count) {
        for (int i = 0; i < count; i++) {
            Due.ask(x, 0, (char) ('A' + i % 8) + "(" + lists(i / 8, "Z") + ")");
        }
        return x.is(4);
    }

    /** "All is forgotten whenever THE TEXT is told, a GIVEN is put OUT or in, a SCOPE is SHUT or opened." */
    private static void whatForgets() {
        String text = TOP + "{T;}{}}";
        GivenSearch x = Due.told(text);
        for (int way = 0; way < 5; way++) {
            due("nothing is remembered", x.is(4), 0);
            ask(x, 0, "S(L(Z))", 0, "g1(g0)");
            ask(x, 1, "S(Y)", 1, "");
            due("remembered", x.is(4), 3);
            switch (way) {
                case 0 -> Due.due("OUT", x.out(2, true), true);
                case 1 -> Due.due("in", x.out(2, false), true);
                case 2 -> Due.due("SHUT", x.shut(2, true), true);
                case 3 -> Due.due("opened", x.shut(2, false), true);
                default -> due("told", Due.scopes(x, text), 3);
            }
        }
        due("nothing is remembered", x.is(4), 0);
        ask(x, 0, "S(L(Z))", 0, "g1(g0)");
        asked(x, "none is met", 0, 2, 0, 0, 2);
    }

    private static void whatForgetsNot() {
        GivenSearch x = Due.told(TOP + "{T;}{}}");
        x.out(2, true);
        x.shut(2, true);
        ask(x, 0, "S(L(Z))", 0, "g1(g0)");
        x.out(2, true);
        x.out(1, false);
        x.out(3, true);
        x.out(-1, true);
        x.shut(2, true);
        x.shut(0, false);
        x.shut(3, true);
        x.shut(-1, true);
        due("a FAULT", Due.scopes(x, "{A;"), -1);
        Due.type(x, 0, "S(L(Z))");
        x.candidates(0, 0, 2);
        x.values(0, 0, 3);
        x.relation(0, 0, 3);
        x.unified(0, 0);
        x.special(0, 1);
        x.clashes();
        x.without(0);
        x.needed();
        x.mends();
        due("no such SCOPE", Due.ask(x, 3, "S(Z)"), -2);
        due("a FAULT of ask", Due.ask(x, 0, "S(Z"), -2);
        due("remembered still", x.is(4), 2);
        ask(x, 0, "S(L(Z))", 0, "g1(g0)");
        asked(x, "met", 0, 1, 1, 0, 0);
    }

    // ---- how it ends: 3, 4, 5, 6

    /** T is of 85 GOALS, U of 21, V of 5, W of one; none of them CLOSED. */
    private static final String MANY = "T(a)<-U(a),U(b),U(c),U(d);U(a)<-V(a),V(b),V(c),V(d);V(a)<-W(a),W(b),W(c),W(d);W(a);";

    /** "3 a 201st GOAL would be ASKED": whatever would become of it. */
    private static void goals200() {
        String[] needs = {"V(b)", "V(b),W(b)", "V(b),W(b),W(c)", "V(b),W(b),W(c),W(d)", "V(b),W(b),W(c),N", "V(b),W(b),N"};
        int[] goals = {198, 199, 200, 201, 201, 200};
        for (int i = 0; i < needs.length; i++) {
            GivenSearch x = Due.told("{" + MANY + "R<-T(a),T(b),U(a),Q;Q<-" + needs[i] + ";}");
            int end = goals[i] > 200 ? 3 : i == 5 ? 1 : 0;
            due("R by " + needs[i], Due.ask(x, 0, "R"), end);
            int most = Math.min(goals[i], 200);
            asked(x, "R by " + needs[i], end, most, 0, 0, i == 5 ? 199 : most, end == 0 ? most : 0, end == 0 ? 4 : 0, 5);
            due("remembered", x.is(4), end == 0 ? 2 : end == 1 ? 3 : 0);
            x = Due.told("{" + MANY + "R;R<-T(a),T(b),U(a),Q;Q<-" + needs[i] + ";}");
            end = goals[i] > 200 ? 3 : i == 5 ? 0 : 2;
            due("one of two, R by " + needs[i], Due.ask(x, 0, "R"), end);
            due("one of two, R by " + needs[i], x.asked(1), most);
        }
    }

    /** "(in this asking)". */
    private static void goalsOfEachAsking() {
        GivenSearch x = Due.told("{" + MANY + "R(e)<-T(a),T(b),U(a),Q(e);Q(e)<-V(b),W(b),W(c);}");
        for (int i = 0; i < 4; i++) {
            due("200 GOALS in each asking", Due.ask(x, 0, "R(q)"), 0);
            asked(x, "200 GOALS in each asking", 0, 200, 0, 0, 200);
            due("200 GOALS in what would be", x.without(6), -1);
            due("200 GOALS in what would be", x.without(5), 1);
            due("200 GOALS in what would be", x.needed(), 63);
        }
    }

    private static String chain(char from, char to) {
        StringBuilder text = new StringBuilder();
        for (char c = from; c < to; c++) {
            text.append(c).append("(a)<-").append((char) (c + 1)).append("(a);");
        }
        return text.toString();
    }

    /** "4 a GOAL would lie in 20 others". */
    private static void others20() {
        for (char last = 'R'; last <= 'W'; last++) {
            int goals = last - 'A' + 1;
            GivenSearch x = Due.told("{" + chain('A', last) + last + "(a);}");
            due(goals + " in one another", Due.ask(x, 0, "A(q)"), goals <= 20 ? 0 : 4);
            int most = Math.min(goals, 20);
            asked(x, goals + " in one another", goals <= 20 ? 0 : 4, most, 0, 0, most, goals <= 20 ? goals : 0,
                goals <= 20 ? goals - 1 : 0, most, goals <= 20 ? goals : 0);
            due(goals + " in one another, none behind", Due.scopes(x, "{" + chain('A', last) + "}"), goals - 1);
            due(goals + " in one another, none behind", Due.ask(x, 0, "A(q)"), goals <= 20 ? 1 : 4);
        }
        // One in 19 others is remembered: so what would lie in 20 is met above.
        GivenSearch x = Due.told("{" + chain('A', 'U') + "U(a);}");
        due("in 20 others", Due.ask(x, 0, "A(Z)"), 4);
        due("in 19 others", Due.ask(x, 0, "B(Z)"), 0);
        due("met", Due.ask(x, 0, "A(Z)"), 0);
        asked(x, "met", 0, 2, 1, 0, 1, 21, 20, 2, 21);
    }

    /** "5 a GOAL of SIZE above 100 would be ASKED": B's second part is of SIZE 94 and what stands around it. */
    private static void sizes100() {
        String ahead = "{A<-G(b),C(T(b,b,";
        String behind = "));G(T(c,c,c))<-K(c);K(T(T(I,I,I),T(I,I,I),I));C(a);C(a)<-N;}";
        // G's part is of 31: C(T(b,b,b)) of 95.
        for (int n = 0; n <= 7; n++) {
            GivenSearch x = Due.told(ahead + lists(n, "b") + behind);
            int size = 95 + n;
            due("SIZE " + size, Due.ask(x, 0, "A"), size <= 100 ? 0 : 5);
            asked(x, "SIZE " + size, size <= 100 ? 0 : 5, size <= 100 ? 5 : 3, 0, 0, size <= 100 ? 5 : 3);
            due("SIZE " + size, x.node(3, 7), size <= 100 ? size : -2);
            due("it isn't remembered", x.is(4), size <= 100 ? 3 : 0);
        }
    }

    /** "(3 ahead of 4, 4 ahead of 5)": the GOAL of Y would be the 201st or not, lie in 20 others or not, be too large. */
    private static void endsInTheirOrder() {
        for (int bits = 0; bits < 8; bits++) {
            boolean isMany = (bits & 1) != 0;
            boolean isDeep = (bits & 2) != 0;
            boolean isLarge = (bits & 4) != 0;
            endsInTheirOrder(isMany, isDeep, isLarge, false, isMany ? 3 : isDeep ? 4 : isLarge ? 5 : 0);
            if (isMany) {
                endsInTheirOrder(true, isDeep, isLarge, true, isDeep ? 4 : isLarge ? 5 : 0);
            }
        }
    }

    private static void endsInTheirOrder(boolean isMany, boolean isDeep, boolean isLarge, boolean isOneLess, int end) {
        int rest = (isDeep ? 2 : 3) - (isOneLess ? 1 : 0);
        String more = rest == 1 ? "W(d)" : rest == 2 ? "W(d),W(e)" : "X(d),W(e)";
        String text = "{A(L(a),b)<-A(a,b);A(Z,b)<-" + (isMany ? "T(c),T(d)," : "") + "E(b),B(" + lists(9, "Z") + ",b);"
            + "B(L(a),b)<-B(a,b);B(Z,b)<-Y(" + (isLarge ? "T(b,b,L(L(L(L(L(L(b)))))))" : "b") + ");Y(a);"
            + "E(b)<-G(b)" + (isMany ? ",V(c)," + more : "") + ";X(a)<-W(a);"
            + "G(T(c,c,c))<-K(c);K(T(T(I,I,I),T(I,I,I),I));" + MANY + "}";
        GivenSearch x = Due.told(text);
        String what = "many " + isMany + ", deep " + isDeep + ", large " + isLarge + ", one less " + isOneLess;
        due(what, Due.ask(x, 0, "A(" + lists(isDeep ? 9 : 8, "Z") + ",q)"), end);
        int ahead = isMany ? 200 - (isOneLess ? 1 : 0) : (isDeep ? 20 : 19) + 3;
        due(what + ", GOALS", x.asked(1), end == 0 ? ahead + 1 : ahead);
        due(what + ", in one another", x.asked(7), isDeep || end == 0 ? 20 : 19);
    }

    /** "6 THE TREE of a GIVEN that did not FAIL would have more than 200 NODES". */
    private static void nodes200() {
        String text = "{D(Z);D(L(a))<-D(a),D(a);R<-D(" + lists(6, "Z") + "),D(" + lists(5, "Z") + "),D(L(L(Z))),";
        String[] rest = {"D(Z);", "E(Z);", "D(L(Z));", "D(L(L(Z)));"};
        // 1 + 127 + 63 + 7 and: 1, 2, 3, 7.
        for (int i = 0; i < 4; i++) {
            GivenSearch x = Due.told(text + rest[i] + "E(a)<-D(a);}");
            due("with " + rest[i], Due.ask(x, 0, "R"), i < 2 ? 0 : 6);
            due("NODES with " + rest[i], x.asked(5), i < 2 ? 199 + i : 0);
            due("the last NODE with " + rest[i], x.node(198 + i, 1), i == 0 ? 0 : i == 1 ? 198 : -2);
            due("none behind it", x.node(199 + i, 0), -2);
            due("remembered", x.is(4), i == 0 ? 8 : i == 1 ? 9 : 7);
        }
    }

    private static void nodesOfOneThatFails() {
        String six = "D(" + lists(6, "Z") + ")";
        GivenSearch x = Due.told("{D(Z);D(L(a))<-D(a),D(a);R<-" + six + "," + six + ",N;R<-" + six + ";}");
        ask(x, 0, "N", 1, "");
        due("255 NODES, but it FAILED", Due.ask(x, 0, "R"), 0);
        due("the other one's NODES", x.asked(5), 128);
        due("FAILED", x.node(0, 5), 1);
        x.out(3, true);
        due("none other", Due.ask(x, 0, "R"), 1);
    }

    private static void nodesAndTwoThatAreAsGood() {
        String six = "D(" + lists(6, "Z") + ")";
        String text = "{D(Z);D(L(a))<-D(a),D(a);R<-" + six + "," + six + ";R<-" + six + ";R<-D(Z);}";
        GivenSearch x = Due.told(text);
        due("the first has more", Due.ask(x, 0, "R"), 6);
        x.out(2, true);
        due("two are as good", Due.ask(x, 0, "R"), 2);
        x.out(4, true);
        due("128 alone", Due.ask(x, 0, "R"), 0);
        due("128 alone", x.asked(5), 128);
        x = Due.told("{D(Z);D(L(a))<-D(a),D(a);R;R<-D(Z);R<-" + six + "," + six + ";}");
        due("the third has more: ahead of AMBIGUOUS", Due.ask(x, 0, "R"), 6);
        x = Due.told("{D(Z);D(L(a))<-D(a),D(a);R;R<-" + six + ",A;A;A;}");
        due("AMBIGUOUS below", Due.ask(x, 0, "R"), 2);
        due("AMBIGUOUS below", x.both(0), 4);
    }

    /** "(that which isn't ASKED any more doesn't count)". */
    private static void notAskedAnyMore() {
        GivenSearch x = Due.told("{" + MANY + "R<-T(a),T(b),U(a),Q;Q<-V(b),W(b),W(c),W(d);}");
        due("3", Due.ask(x, 0, "R"), 3);
        asked(x, "3", 3, 200, 0, 0, 200, 0, 0, 5, 0);
        x = Due.told("{" + chain('A', 'V') + "V(a);}");
        due("4", Due.ask(x, 0, "A(q)"), 4);
        asked(x, "4", 4, 20, 0, 0, 20, 0, 0, 20, 0);
        x = Due.told("{A<-G(b),C(T(b,b,T(b,b,b)));G(T(c,c,c))<-K(c);K(T(T(I,I,I),T(I,I,I),I));C(a);}");
        due("5", Due.ask(x, 0, "A"), 5);
        asked(x, "5", 5, 3, 0, 0, 3, 0, 0, 3, 0);
        x = Due.told("{A<-B,C,B;B;C;C;}");
        due("2", Due.ask(x, 0, "A"), 2);
        asked(x, "2: the third NEED isn't ASKED", 2, 3, 0, 0, 4, 0, 0, 2, 0);
        x = Due.told("{A<-B,C,B;B;C<-D;D;D;}");
        due("2 below", Due.ask(x, 0, "A"), 2);
        asked(x, "2 below: the third NEED isn't ASKED", 2, 4, 0, 0, 5, 0, 0, 3, 0);
    }

    /** What has ended is TRIED no more: neither others of the BEST, nor those of a later round, nor of the next LEVEL. */
    private static void notTriedAnyMore() {
        String nine = lists(9, "Z");
        String[] ways = {
            "D;D;", MANY + "D<-T(a),T(b),T(c);",
            "D<-E(" + nine + ",b);E(L(a),b)<-E(a,b);E(Z,b)<-F(" + nine + ",b);F(L(a),b)<-F(a,b);",
            "D<-G(b),F(T(b,b,T(b,b,b)));G(T(c,c,c))<-H(c);H(T(T(I,I,I),T(I,I,I),I));F(a);",
            "D<-E(" + lists(7, "Z") + ");E(L(a))<-E(a),E(a);E(Z);",
        };
        int[][] want = {
            {2, 3, 0, 0, 4, 0, 0, 3, 0}, {3, 200, 0, 0, 200, 0, 0, 7, 0}, {4, 20, 0, 0, 20, 0, 0, 20, 0},
            {5, 5, 0, 0, 5, 0, 0, 5, 0}, {6, 3 + 8 + 7, 7, 0, 3 + 8, 0, 0, 3 + 8, 0},
        };
        for (int i = 0; i < ways.length; i++) {
            // A and B(Z) by the first of their BEST, then D.
            GivenSearch x = Due.told("{B(a);A;" + ways[i] + "{A<-B(Z);A;B(Z)<-D;B(Z)<-N;B(a);A<-B(Z),N;}}");
            due("ends", Due.ask(x, 1, "A"), want[i][0]);
            asked(x, "ended with " + want[i][0], want[i]);
        }
        GivenSearch x = Due.told("{A(a);{A(a);A(Z);A(Z);}}");
        due("AMBIGUOUS by the first round", Due.ask(x, 1, "A(Z)"), 2);
        due("AMBIGUOUS by the first round", x.asked(4), 2);
        x = Due.told("{A;{A;A;}}");
        due("AMBIGUOUS by the first LEVEL", Due.ask(x, 1, "A"), 2);
        due("AMBIGUOUS by the first LEVEL", x.asked(4), 2);
    }

    /** The more special one is the BEST wherever it stands. */
    private static void bestWhereverItStands() {
        for (int at = 0; at < 24; at++) {
            GivenSearch x = Due.told("{" + "A(a);".repeat(at) + "A(Z);" + "A(a);".repeat(23 - at) + "}");
            ask(x, 0, "A(Z)", 0, "g" + at);
            due("the others are not TRIED", x.node(0, 6), 23);
            due("it alone is TRIED", x.asked(4), 1);
            x.out(at, true);
            due("the others are as good", Due.ask(x, 0, "A(Z)"), 2);
            due("the first of them", x.both(0), at == 0 ? 1 : 0);
            due("the second of them", x.both(1), at < 2 ? 2 : 1);
        }
    }

    /** "Ended by 2 to 6 nothing more is remembered": what was remembered ahead of that stays. */
    private static void nothingMoreIsRemembered() {
        String six = "D(" + lists(6, "Z") + ")";
        String nine = lists(9, "Z");
        String[][] ways = {
            {"{O<-K,J,K;J<-K,A;A;A;K;}", "2"},
            {"{" + MANY + "O<-K,J;J<-K,A;A<-T(a),T(b),T(c);K;}", "3"},
            {"{O<-K,J;J<-K,A;A<-B(" + nine + ",b);B(L(a),b)<-B(a,b);B(Z,b)<-C(" + nine + ",b);C(L(a),b)<-C(a,b);K;}", "4"},
            {"{O<-K,J;J<-K,A;A<-G(b),C(T(b,b,T(b,b,b)));G(T(c,c,c))<-H(c);H(T(T(I,I,I),T(I,I,I),I));C(a);K;}", "5"},
            {"{D(Z);D(L(a))<-D(a),D(a);O<-K,J;J<-K,A;A<-" + six + "," + six + ";K;}", "6"},
        };
        int[] known = {1, 1, 1, 1, 1 + 7};
        for (int i = 0; i < ways.length; i++) {
            GivenSearch x = Due.told(ways[i][0]);
            int end = ways[i][1].charAt(0) - '0';
            due("ends with " + end, Due.ask(x, 0, "O"), end);
            due("remembered ahead of " + end, x.is(4), known[i]);
            due("ends again with " + end, Due.ask(x, 0, "O"), end);
            due("remembered ahead of " + end, x.is(4), known[i]);
            ask(x, 0, "K", 0, "g" + (x.is(1) - 1));
            asked(x, "K is met", 0, 1, 1, 0, 0);
            due("A is not remembered", Due.ask(x, 0, "A"), end);
            due("A is not remembered", x.asked(2), end == 6 ? 2 : 0);
        }
    }

    // ---- THE TREE

    private static void treesAtTheirSmallest() {
        GivenSearch x = Due.told("{A;{B<-A,A,A,A;}}");
        ask(x, 0, "A", 0, "g0");
        asked(x, "one NODE", 0, 1, 0, 0, 1, 1, 0, 1, 1);
        due("none above", x.node(0, 1), -1);
        due("of no NEED", x.node(0, 2), -1);
        due("none behind", x.node(1, 0), -2);
        ask(x, 1, "B", 0, "g1(g0,g0,g0,g0)");
        asked(x, "four below", 0, 5, 3, 0, 2, 5, 1, 2, 2);
        for (int k = 1; k < 5; k++) {
            due("the one above", x.node(k, 1), 0);
            due("which NEED", x.node(k, 2), k - 1);
            due("LEVEL", x.node(k, 3), 1);
        }
        ask(x, 1, "A", 0, "g0");
        asked(x, "a remembered one", 0, 1, 1, 0, 0, 1, 0, 1, 1);
        due("of no NEED here", x.node(0, 2), -1);
        due("none above here", x.node(0, 1), -1);
    }

    /** Of remembered ones a tree is put together that is deeper than GOALS may lie in one another. */
    private static void treesDeeperThan20() {
        GivenSearch x = Due.told(TOP + "T(L(a))<-T(a);T(Z)<-S(" + lists(8, "Z") + ");U(L(a))<-U(a);U(Z)<-T(" + lists(8, "Z")
            + ");V(L(a))<-V(a);V(Z)<-U(" + lists(8, "Z") + ");}");
        String nine = lists(8, "Z");
        ask(x, 0, "S(" + nine + ")", 0, "g1(".repeat(8) + "g0" + ")".repeat(8));
        due("T", Due.ask(x, 0, "T(" + nine + ")"), 0);
        asked(x, "T", 0, 10, 1, 0, 9, 18, 17, 10, 4);
        due("U", Due.ask(x, 0, "U(" + nine + ")"), 0);
        asked(x, "U", 0, 10, 1, 0, 9, 27, 26, 10, 6);
        due("V", Due.ask(x, 0, "V(" + nine + ")"), 0);
        asked(x, "V", 0, 10, 1, 0, 9, 36, 35, 10, 8);
        for (int k = 0; k < 36; k++) {
            due("the one above", x.node(k, 1), k - 1);
            due("which NEED", x.node(k, 2), k == 0 ? -1 : 0);
        }
        Due.due("the last", Due.goal(x, 35), "S(Z)");
        String tree = "g6(".repeat(8) + "g7(" + "g4(".repeat(8) + "g5(" + "g2(".repeat(8) + "g3(" + "g1(".repeat(8) + "g0";
        Due.due("the tree", Due.tree(x), tree + ")".repeat(35));
    }

    /** "of which none is in what is put for it": in one, by way of another, by way of what is solved. */
    private static void putForItself() {
        GivenSearch x = Due.told("{K(a,L(a));E(b,b);M<-E(c,d),K(c,d);N<-K(c,d),E(c,d);O<-K(c,d),K(d,e),E(c,e);O(a)<-K(a,b),K(b,c);}");
        ask(x, 0, "K(p,p)", 1, "");
        asked(x, "itself", 1, 1, 0, 0, 0);
        ask(x, 0, "K(L(p),p)", 1, "");
        ask(x, 0, "K(p,L(L(p)))", 1, "");
        ask(x, 0, "K(p,q)", 0, "g0");
        ask(x, 0, "M", 1, "");
        asked(x, "solved ahead of it", 1, 3, 0, 0, 2);
        ask(x, 0, "N", 1, "");
        asked(x, "solved ahead of it", 1, 3, 0, 0, 2);
        ask(x, 0, "O", 1, "");
        asked(x, "by way of another", 1, 4, 0, 0, 3);
        ask(x, 0, "O(q)", 0, "g5(g0,g0)");
        Due.due("none is in itself", Due.goal(x, 2), "K(L(a),L(L(a)))");
    }
}
