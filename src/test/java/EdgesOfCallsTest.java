/** The promises one by one: each sentence that tells what is refused, empty, full, smallest, largest. */
public final class EdgesOfCallsTest {
    /** No place, GIVEN, SCOPE, NODE, TYPE, depth or "what" bears one of these numbers. */
    private static final int[] WRONG = {-1, -2, -3, -32, -64, Integer.MIN_VALUE, Integer.MIN_VALUE + 1, 24, 25, 31, 32, 33, 64,
        256, 1 << 28, 1 << 29, 1 << 30, (1 << 30) + 1, (1 << 31) / 8, Integer.MAX_VALUE - 1, Integer.MAX_VALUE};
    private static final int ALL24 = (1 << 24) - 1;
    private static final String MANY =
        "T(a)<-U(a),U(b),U(c),U(d);U(a)<-V(a),V(b),V(c),V(d);V(a)<-W(a),W(b),W(c),W(d);W(a);";
    private static final String NINE = "L(L(L(L(L(L(L(L(L(Z)))))))))";
    /** A text for each way in which R ends, 0 to 6. */
    private static final String[] ENDS = {
        "{R<-A(b);A(Z);}", "{R<-A(b);A(Z)<-N;}", "{R<-A(b);A(Z);A(Y);}", "{" + MANY + "R<-T(a),T(b),T(c);}",
        "{R<-A(" + NINE + ",b);A(L(a),b)<-A(a,b);A(Z,b)<-B(" + NINE + ",b);B(L(a),b)<-B(a,b);}",
        "{R<-G(b),C(T(b,b,T(b,b,b)));G(T(c,c,c))<-H(c);H(T(T(I,I,I),T(I,I,I),I));C(a);}",
        "{R<-D(L(L(L(L(L(L(L(Z))))))));D(L(a))<-D(a),D(a);D(Z);}",
    };

    private EdgesOfCallsTest() {
    }

    public static void main(String[] args) {
        newObject();
        newObjectRefuses();
        wrongNumbers();
        wrongNumbersOfTheTape();
        isAtMost();
        scopeAtMost();
        givenAtMost();
        givenAtLeast();
        outEach();
        shutEach();
        specialOfEach();
        clashesFewAndMany();
        relationOfLike();
        relationAbove100();
        relationOfItself();
        unifiedAbove100();
        askRefused();
        askedOfEachEnd();
        nodeOfEachEnd();
        nodeAbove100();
        varsByOrder();
        writeTreeAtMost();
        writeAnswerOfEachEnd();
        writeAnswerOf100();
        bothOfEachEnd();
        octets();
        withoutOfEachEnd();
        withoutEnds();
        withoutAsItIsNow();
        neededOfEachEnd();
        neededOfAll();
        mendsOfEachEnd();
        mendsOfAll();
        whatWouldBeChangesNothing();
        candidatesAtMost();
        candidatesOfVars();
        candidatesNone();
        valuesDeep();
        valuesOfAMillion();
        valuesOfManyMillions();
        valuesRefused();
        valuesOfAllLevels();
        lastCall();
        twoObjects();
        Due.finish("EdgesOfCallsTest");
    }

    private static void due(String what, long got, long want) {
        Due.due(what, got, want);
    }

    private static void due(String what, boolean got, boolean want) {
        Due.due(what, got, want);
    }

    private static GivenSearch ended(int end) {
        GivenSearch x = Due.told(ENDS[end]);
        due("R ends with " + end, Due.ask(x, 0, "R"), end);
        return x;
    }

    // ---- 1

    private static void newObject() {
        GivenSearch x = new GivenSearch();
        for (int what = 0; what < 7; what++) {
            due("1: is " + what, x.is(what), 0);
        }
        for (int i = 0; i < 4; i++) {
            for (int j = 0; j < 4; j++) {
                for (int what = 0; what < 4; what++) {
                    due("1, 13: A at first, relation " + what, x.relation(i, j, what), 1);
                }
            }
        }
        due("1: fault", x.fault(), -1);
        due("1: clashes", x.clashes(), 0);
        due("1: octet", x.octet(0), -1);
        due("13: A at first", x.unified(3, 2), 1);
        due("13: A at first", x.octet(0), 'A');
        due("13: A at first", x.octet(1), -1);
        GivenSearch y = Due.told("{A;}");
        for (int i = 0; i < 4; i++) {
            due("13: A at first is FOUND", y.candidates(i, 0, 2), 1);
            due("13: A at first has a VALUE", y.values(i, 0, 0), 1);
        }
    }

    /** "No SCOPES": what is asked of a SCOPE, a GIVEN, an asking is refused. */
    private static void newObjectRefuses() {
        for (int n = -1; n < 10; n++) {
            GivenSearch x = new GivenSearch();
            String ahead = Seen.beyondFault(x);
            for (int what = 0; what < 9; what++) {
                due("1: scope", x.scope(n, what), -2);
                due("1: given", x.given(n, what), -1);
                due("1: special", x.special(n, what), -1);
                due("1: node", x.node(n, what), -2);
                due("1: candidates", x.candidates(0, n, what), -1);
                due("1: values", x.values(0, n, what), -1);
            }
            due("1: out", x.out(n, true), false);
            due("1: shut", x.shut(n, true), false);
            due("1: out", x.out(n, false), false);
            due("1: shut", x.shut(n, false), false);
            due("1: asked", x.asked(n), -1);
            due("1: both", x.both(n), -1);
            due("1: writeGoal", x.writeGoal(n), -1);
            due("1: octet", x.octet(n), -1);
            due("1: without", x.without(n), -1);
            due("1: ask", Due.ask(x, n, "A"), -2);
            due("1: ask, no FAULT", x.fault(), -1);
            due("1: writeTree", x.writeTree(), -1);
            due("1: writeAnswer", x.writeAnswer(), -1);
            due("1: needed", x.needed(), -1);
            due("1: mends", x.mends(), -1);
            Due.due("1: nothing has come of it", Seen.beyondFault(x), ahead);
        }
    }

    // ---- numbers that name nothing

    private static GivenSearch asked() {
        GivenSearch x = Due.told("{S(Z);S(L(a))<-S(a);{S(Y);}}");
        Due.type(x, 0, "S(L(Z))");
        Due.ask(x, 1, "S(L(Z))");
        x.writeTree();
        return x;
    }

    private static void wrongNumbers() {
        String ahead = Seen.beyondFault(asked()) + Seen.types(asked());
        for (int n : WRONG) {
            GivenSearch x = asked();
            wrongNumber(x, n);
            Due.due("nothing is done by " + n, Seen.beyondFault(x) + Seen.types(x), ahead);
        }
        for (int n : new int[] {3, 4, 5, 6, 7}) {
            GivenSearch x = asked();
            due("9: out " + n, x.out(n, true), false);
            due("10: shut " + n, x.shut(n, true), false);
            due("8: given " + n, x.given(n, 0), -1);
            due("7: scope " + n, x.scope(n, 0), -2);
            due("11: special " + n, x.special(n, 0), -1);
            due("24: without " + n, x.without(n), -1);
            due("16: ask in " + n, Due.ask(x, n, "A"), -2);
            due("27: candidates in " + n, x.candidates(0, n, 0), -1);
            due("28: values in " + n, x.values(0, n, 0), -1);
            Due.due("nothing is done by " + n, Seen.beyondFault(x) + Seen.types(x), ahead);
        }
    }

    private static void wrongNumber(GivenSearch x, int n) {
        String by = " of " + n;
        due("6: is" + by, x.is(n), -1);
        due("7: scope" + by, x.scope(n, 0), -2);
        due("7: scope, what" + by, x.scope(0, n), -2);
        due("8: given" + by, x.given(n, 0), -1);
        due("8: given, what" + by, x.given(0, n), -1);
        due("9: out" + by, x.out(n, true), false);
        due("9: in" + by, x.out(n, false), false);
        due("10: shut" + by, x.shut(n, true), false);
        due("10: opened" + by, x.shut(n, false), false);
        due("11: special" + by, x.special(n, 0), -1);
        due("11: special, the other" + by, x.special(0, n), -1);
        due("11: special, both" + by, x.special(n, n), -1);
        due("13: type" + by, Due.type(x, n, "B"), -1);
        due("14: relation" + by, x.relation(n, 0, 0), -1);
        due("14: relation, the other" + by, x.relation(0, n, 0), -1);
        due("14: relation, what" + by, x.relation(0, 0, n), -1);
        due("15: unified" + by, x.unified(n, 0), -1);
        due("15: unified, the other" + by, x.unified(0, n), -1);
        due("16: ask" + by, Due.ask(x, n, "B"), -2);
        due("16: ask, no FAULT" + by, x.fault(), -1);
        due("17: asked" + by, x.asked(n), -1);
        due("18: node" + by, x.node(n, 0), -2);
        due("18: node, what" + by, x.node(0, n), -2);
        due("19: writeGoal" + by, x.writeGoal(n), -1);
        due("22: both" + by, x.both(n), -1);
        due("23: octet" + by, x.octet(n), -1);
        due("24: without" + by, x.without(n), -1);
        due("27: candidates" + by, x.candidates(n, 0, 0), -1);
        due("27: candidates, SCOPE" + by, x.candidates(0, n, 0), -1);
        due("27: candidates, what" + by, x.candidates(0, 0, n), -1);
        due("28: values" + by, x.values(n, 0, 0), -1);
        due("28: values, SCOPE" + by, x.values(0, n, 0), -1);
        due("28: values, d" + by, x.values(0, 0, n), -1);
    }

    /** type() and ask() empty the tape though the number is wrong. */
    private static void wrongNumbersOfTheTape() {
        GivenSearch x = Due.told("{A;}");
        for (int n : WRONG) {
            Due.tape(x, "A(");
            due("13: type of " + n, x.type(n), -1);
            due("13: the tape is empty then, too", x.is(5), 0);
            due("5: for no such i", x.fault(), -1);
            Due.type(x, 0, "A(");
            Due.tape(x, "A(");
            due("16: ask in " + n, x.ask(n), -2);
            due("16: the tape", x.is(5), 0);
            due("16: fault() tells NONE then", x.fault(), -1);
        }
    }

    // ---- 6 to 10

    private static void isAtMost() {
        GivenSearch x = Due.told("{" + "A<-B,C,D,E;".repeat(24) + "{}".repeat(7) + "}");
        due("6: SCOPES", x.is(0), 8);
        due("6: GIVENS", x.is(1), 24);
        due("6: NEEDS", x.is(6), 96);
        for (int k = 0; k < 24; k++) {
            x.out(k, true);
        }
        for (int k = 0; k < 8; k++) {
            x.shut(k, true);
        }
        due("6: OUT", x.is(2), ALL24);
        due("6: SHUT", x.is(3), 255);
        for (int i = 0; i < 50; i++) {
            Due.ask(x, i % 8, (char) ('A' + i / 8) + "(Z)");
        }
        due("6: remembered", x.is(4), 40);
        Due.tape(x, "A".repeat(800));
        due("6: bytes", x.is(5), 800);
        due("6: others", x.is(7), -1);
        due("6: others", x.is(8), -1);
        due("6: others", x.is(-1), -1);
    }

    private static void scopeAtMost() {
        GivenSearch x = Due.told("{" + "{}".repeat(7) + "A;".repeat(24) + "}");
        due("7: around the first", x.scope(0, 0), -1);
        due("7: own of the first", x.scope(0, 1), 24);
        due("7: the first lies in none", x.scope(0, 2), 0);
        due("7: right in the first", x.scope(0, 3), 7);
        for (int k = 1; k < 8; k++) {
            due("7: around", x.scope(k, 0), 0);
            due("7: own", x.scope(k, 1), 0);
            due("7: lies in", x.scope(k, 2), 1);
            due("7: right in", x.scope(k, 3), 0);
        }
        due("7: others", x.scope(8, 0), -2);
        due("7: others", x.scope(7, 4), -2);
        x = Due.told("{{{{{{}{}{}}}}}}");
        for (int k = 0; k < 8; k++) {
            due("7: around " + k, x.scope(k, 0), Math.min(k, 5) - 1);
            due("7: lies in " + k, x.scope(k, 2), Math.min(k, 5));
            due("7: right in " + k, x.scope(k, 3), k < 4 ? 1 : k == 4 ? 3 : 0);
        }
    }

    private static void givenAtMost() {
        GivenSearch x = Due.told("{{}{" + "A;".repeat(23)
            + "P<-T(T(a,b,c),T(d,e,f),T(g)),T(T(g,h,i),T(j,k,l),m),T(T(m,n,o),T(p,q,r),s),T(T(s,t,u),T(v,w,x),P(y,z));}}");
        int[] want = {2, 4, 26, 1, 11 + 10 + 10 + 12, 26};
        for (int what = 0; what < 6; what++) {
            due("8: given 23 " + what, x.given(23, what), want[what]);
            due("8: none behind", x.given(24, what), -1);
        }
        due("8: others", x.given(23, 6), -1);
        x = Due.told("{T(T(a,b,c),T(d,e,f),T(x,y))<-T(T(z,y,x),T(a,a,a),a),z;}");
        int[] other = {0, 2, 9, 12, 11, 1};
        for (int what = 0; what < 6; what++) {
            due("8: SIZE 12 " + what, x.given(0, what), other[what]);
        }
    }

    private static void givenAtLeast() {
        GivenSearch x = Due.told("{A;a;a<-a;A<-b;b<-A;}");
        int[][] want = {{0, 0, 0, 1, 0, 0}, {0, 0, 1, 1, 0, 0}, {0, 1, 1, 1, 1, 0}, {0, 1, 1, 1, 1, 1}, {0, 1, 1, 1, 1, 0}};
        for (int k = 0; k < 5; k++) {
            for (int what = 0; what < 6; what++) {
                due("8: given " + k + " " + what, x.given(k, what), want[k][what]);
            }
        }
    }

    /** "true; false if there is none such, or it is so already". */
    private static void outEach() {
        GivenSearch x = Due.told("{" + "A;".repeat(24) + "}");
        for (int k = 0; k < 24; k++) {
            due("9: it is in already", x.out(k, false), false);
            due("9: none is OUT", x.is(2), 0);
            due("9: put OUT", x.out(k, true), true);
            due("9: its bit", x.is(2), 1 << k);
            due("9: it is OUT already", x.out(k, true), false);
            due("9: its bit", x.is(2), 1 << k);
            due("9: put in", x.out(k, false), true);
            due("9: none is OUT", x.is(2), 0);
        }
        for (int k = 0; k < 24; k++) {
            due("9: put OUT", x.out(k, true), true);
            due("9: all so far", x.is(2), (2 << k) - 1);
        }
        due("9: the next", x.out(24, true), false);
        due("9: all", x.is(2), ALL24);
        due("9: no SCOPE is SHUT by it", x.is(3), 0);
        due("9: the only ones that there are", Due.ask(x, 0, "A"), 1);
        x.out(23, false);
        due("9: the last one", Due.ask(x, 0, "A"), 0);
        due("9: the last one", x.node(0, 0), 23);
    }

    private static void shutEach() {
        GivenSearch x = Due.told("{A;{B;}{C;{D;}}{}{}{}{E;}}");
        for (int k = 0; k < 8; k++) {
            due("10: it is open already", x.shut(k, false), false);
            due("10: none is SHUT", x.is(3), 0);
            due("10: SHUT", x.shut(k, true), true);
            due("10: its bit", x.is(3), 1 << k);
            due("10: it is SHUT already", x.shut(k, true), false);
            due("10: its bit", x.is(3), 1 << k);
            due("10: opened", x.shut(k, false), true);
            due("10: none is SHUT", x.is(3), 0);
        }
        for (int k = 0; k < 8; k++) {
            due("10: SHUT", x.shut(k, true), true);
            due("10: all so far", x.is(3), (2 << k) - 1);
        }
        due("10: the next", x.shut(8, true), false);
        due("10: no GIVEN is OUT by it", x.is(2), 0);
        x.shut(7, false);
        due("10: the last one", Due.ask(x, 7, "E"), 0);
        due("10: not what is around it", Due.ask(x, 7, "A"), 1);
        x.shut(0, false);
        due("10: what is around it", Due.ask(x, 7, "A"), 0);
        due("10: LEVEL", x.node(0, 3), 1);
    }

    // ---- 11, 12

    /** All five answers, each both ways. */
    private static void special(String i, String j, int want, int other) {
        GivenSearch x = Due.told("{" + i + ";{" + j + ";}}");
        due("11: " + i + " and " + j, x.special(0, 1), want);
        due("11: " + j + " and " + i, x.special(1, 0), other);
        due("11: " + i + " and itself", x.special(0, 0), 3);
        due("11: " + j + " and itself", x.special(1, 1), 3);
        x.out(0, true);
        x.out(1, true);
        x.shut(0, true);
        x.shut(1, true);
        due("11: OUT and SHUT", x.special(0, 1), want);
        due("12: of unlike SCOPES", x.clashes(), 0);
        x = Due.told("{" + i + "<-N;" + j + "<-M,M;}");
        due("11: NEEDS change nothing", x.special(0, 1), want);
        due("12: clashes of " + i + ", " + j, x.clashes(), want >= 3 ? 1 : 0);
    }

    private static void specialOfEach() {
        special("Z", "a", 1, 2);
        special("a", "b", 3, 3);
        special("Z", "Z", 3, 3);
        special("Z", "Y", 0, 0);
        special("A(Z)", "A", 0, 0);
        special("A(a)", "A(a,b)", 0, 0);
        special("A(a,b,c)", "A(a,b)", 0, 0);
        special("P(a,a)", "P(a,b)", 1, 2);
        special("P(a,b)", "P(b,a)", 3, 3);
        special("P(a,Z)", "P(Y,b)", 4, 4);
        special("P(a,Z)", "P(Y,Y)", 0, 0);
        special("T(a,a,b)", "T(c,d,d)", 4, 4);
        special("T(a,a,b)", "T(c,c,c)", 2, 1);
        special("P(a,L(a))", "P(b,b)", 0, 0);
        special("P(a,L(a))", "P(L(b),b)", 0, 0);
        special("P(a,L(a))", "P(L(b),c)", 4, 4);
        special("P(a,L(a))", "P(b,c)", 1, 2);
        special("P(a,b)", "P(L(a),L(b))", 2, 1);
        special("P(a,a)", "P(L(a),L(b))", 4, 4);
        special("P(a,a)", "P(L(a),L(a))", 2, 1);
        special("L(a)", "a", 1, 2);
        special("L(L(L(L(L(L(L(L(L(L(L(a)))))))))))", "L(L(L(L(L(L(L(L(L(L(L(Z)))))))))))", 2, 1);
        special("T(T(a,b,c),T(d,e,f),T(g,h))", "T(T(h,g,f),T(e,d,c),T(b,a))", 3, 3);
        special("T(T(a,b,c),T(d,e,f),T(g,g))", "T(T(a,a,c),T(d,e,f),T(g,h))", 4, 4);
    }

    private static void clashesFewAndMany() {
        due("12: none", Due.told("{}").clashes(), 0);
        due("12: one alone", Due.told("{a;}").clashes(), 0);
        due("12: one alone in each", Due.told("{a;{a;}{a;}}").clashes(), 0);
        GivenSearch x = Due.told("{" + "a;".repeat(24) + "}");
        for (int out = 0; out <= 24; out++) {
            int in = 24 - out;
            due("12: pairs of " + in, x.clashes(), in * (in - 1) / 2);
            x.out((out * 7) % 24, true);
        }
        x = Due.told("{" + "A(a);".repeat(12) + "{" + "A(a);".repeat(12) + "}}");
        due("12: pairs of one SCOPE", x.clashes(), 66 + 66);
        x.shut(0, true);
        x.shut(1, true);
        due("12: of SHUT ones, too", x.clashes(), 132);
        due("12: of one SCOPE around another", Due.told("{A(a);{A(b);}A(c);{{A(d);}}}").clashes(), 1);
        due("12: of one SCOPE in another", Due.told("{A(a);{A(b);{A(c);}A(d);}}").clashes(), 1);
        due("12: 1 and 2 are none", Due.told("{a;L(a);L(L(a));Z;}").clashes(), 0);
        due("12: 3, 4, 4", Due.told("{P(a,Z);P(b,Z);P(Y,a);}").clashes(), 3);
    }

    // ---- 14, 15

    private static GivenSearch types(String i, String j) {
        GivenSearch x = new GivenSearch();
        Due.type(x, 0, i);
        Due.type(x, 3, j);
        return x;
    }

    private static void relation(String i, String j, int... want) {
        GivenSearch x = types(i, j);
        for (int what = 0; what < 4; what++) {
            due("14: " + i + " and " + j + ", " + what, x.relation(0, 3, what), want[what]);
        }
        due("14: " + i + " and " + j + ", others", x.relation(0, 3, 4), -1);
        due("14: " + i + " and " + j + ", others", x.relation(0, 3, -1), -1);
        due("15: NONE or not", x.unified(0, 3) > 0, want[3] > 0);
    }

    /** "VARS of one letter being one", "SIZE is no less, and their COVER the same", "CONS with unlike many parts". */
    private static void relationOfLike() {
        relation("a", "a", 1, 1, 1, 1);
        relation("a", "z", 1, 1, 1, 1);
        relation("z", "Z", 1, 0, 0, 1);
        relation("Z", "z", 1, 1, 0, 1);
        relation("A", "A(a)", 0, 0, 0, -1);
        relation("A(a)", "A", 0, 0, 1, -1);
        relation("A(a)", "A(a,a)", 0, 0, 0, -1);
        relation("A(a,a)", "A(a)", 0, 0, 1, -1);
        relation("A(B)", "B(A)", 0, 0, 1, -1);
        relation("A(B,c)", "B(A,c)", 0, 0, 1, -1);
        relation("A(B,c)", "B(A,C)", 0, 0, 0, -1);
        relation("A(B,C)", "B(A,c)", 0, 0, 0, -1);
        relation("A(B)", "A(B,A)", 0, 0, 0, -1);
        relation("Z(A)", "Z(A)", 1, 1, 1, 2);
        relation("P(a,Z)", "P(Z,a)", 1, 0, 1, 3);
        relation("P(a,Z)", "P(Y,a)", 0, 0, 0, -1);
        relation("P(a,Z)", "P(Y,b)", 1, 0, 0, 3);
        relation("P(a,b)", "P(L(b),L(a))", 0, 0, 0, -1);
        relation("P(a,b)", "P(L(b),L(c))", 1, 0, 0, 6);
        relation("P(L(b),L(c))", "P(a,b)", 1, 1, 0, 6);
        relation("T(a,b,c)", "T(L(b),L(c),L(a))", 0, 0, 0, -1);
        relation("T(a,b,c)", "T(L(b),L(c),L(d))", 1, 0, 0, 1 + 4 + 3 + 2);
        relation("T(a,b,c)", "T(b,c,a)", 1, 1, 1, 4);
        relation("P(a,a)", "P(L(b),b)", 0, 0, 0, -1);
    }

    /** "NONE: .. it is above 100". */
    private static void relationAbove100() {
        String c = "R(a,P(c,c,c),Q(c,P(e,e,e)))";
        relation(c, "R(b,b,Q(P(d,d,d),d))", 1, 0, 1, 1 + 40 + 40 + 18);
        relation(c, "R(L(b),b,Q(P(d,d,d),d))", 1, 0, 0, 100);
        relation(c, "R(L(L(b)),b,Q(P(d,d,d),d))", 1, 0, 0, -1);
        relation(c, "R(P(b,b),b,Q(P(d,d,d),d))", 1, 0, 1, -1);
        relation("R(P(c,c),P(d,d,d),P(e,e,Z))", "R(d,e,f)", 1, 1, 0, 1 + 3 + 10 + 22);
        relation("T(P(a,a,a),P(b,b,b),P(c,c))", "T(b,c,d)", 1, 1, 0, 1 + 4 + 13 + 27);
    }

    private static void relationOfItself() {
        GivenSearch x = types("P(a,L(b))", "P(Z,Z)");
        for (int i = 0; i < 4; i++) {
            int size = i == 0 ? 4 : i == 3 ? 3 : 1;
            due("14: itself can be UNIFIED", x.relation(i, i, 0), 1);
            due("14: itself becomes itself", x.relation(i, i, 1), 1);
            due("14: itself is no less", x.relation(i, i, 2), 1);
            due("14: its SIZE", x.relation(i, i, 3), size);
            due("15: itself", x.unified(i, i), i == 0 ? 9 : i == 3 ? 6 : 1);
        }
    }

    private static void unifiedAbove100() {
        String c = "R(a,P(c,c,c),Q(c,P(e,e,e)))";
        GivenSearch x = types(c, "R(L(b),b,Q(P(d,d,d),d))");
        String four = "P(a,a,a)";
        String thirteen = "P(" + four + "," + four + "," + four + ")";
        String forty = "P(" + thirteen + "," + thirteen + "," + thirteen + ")";
        String want = "R(L(" + forty + ")," + forty + ",Q(" + thirteen + "," + four + "))";
        Due.due("15: SIZE 100", Due.written(x, x.unified(0, 3)), want);
        due("15: none behind", x.octet(want.length()), -1);
        x = types("R(L(b),b,Q(P(d,d,d),d))", c);
        Due.due("15: SIZE 100, the other way", Due.written(x, x.unified(0, 3)), want);
        x = types(c, "R(L(b),b,Q(P(d,d,d),d))");
        x.unified(0, 3);
        Due.type(x, 3, "R(L(L(b)),b,Q(P(d,d,d),d))");
        due("15: SIZE 101", x.unified(0, 3), -1);
        due("15: what was written latest stays", x.octet(want.length() - 1), ')');
        Due.type(x, 3, "B");
        due("15: they can't be", x.unified(0, 3), -1);
        due("15: what was written latest stays", x.octet(0), 'R');
        due("15: one byte", x.unified(3, 3), 1);
        due("15: one byte", x.octet(1), -1);
    }

    // ---- 16 to 23

    /** "the latest asking stays": also what its GOAL and its SCOPE were. */
    private static void askRefused() {
        String[] texts = {"", "D(", "D,", "D(E,F,G,H)", "{", "D(D(D(D,D,D),D(D,D,D),D(D,D,D)),D)"};
        GivenSearch x = null;
        for (String text : texts) {
            x = Due.told("{A<-B;B;C;{A;D;}}");
            Due.ask(x, 0, "A");
            x.writeTree();
            String ahead = Seen.beyondFault(x);
            due("16: a FAULT, " + text, Due.ask(x, 1, text), -2);
            due("16: its place, " + text, x.fault() >= 0, true);
            Due.due("16: the latest asking stays", Seen.beyondFault(x), ahead);
            due("16: no such SCOPE", Due.ask(x, 2, text), -2);
            due("16: no such SCOPE, no FAULT", x.fault(), -1);
            Due.due("16: the latest asking stays", Seen.beyondFault(x), ahead);
            due("16: its GOAL, its SCOPE", x.needed(), 3);
            due("16: its GOAL, its SCOPE", x.without(1), 1);
            due("16: its GOAL, its SCOPE", x.without(2), 0);
            due("16: its GOAL, its SCOPE", x.without(3), 0);
            Due.due("16: its GOAL", Due.answer(x), "A");
        }
        due("16: the next", Due.ask(x, 1, "D"), 0);
        due("16: the next", x.needed(), 16);
    }

    /** "5 NODES of THE TREE (0 if not FOUND), 6 .. (0 .., or not FOUND), .. 8 unlike GIVENS in THE TREE (0 if not FOUND)". */
    private static void askedOfEachEnd() {
        int[][] want = {
            {0, 2, 0, 0, 2, 2, 1, 2, 2}, {1, 3, 0, 0, 2, 0, 0, 3, 0}, {2, 2, 0, 0, 3, 0, 0, 2, 0}, {3, 200, 0, 0, 200, 0, 0, 5, 0},
            {4, 20, 0, 0, 20, 0, 0, 20, 0}, {5, 3, 0, 0, 3, 0, 0, 3, 0}, {6, 16, 7, 0, 9, 0, 0, 9, 0},
        };
        for (int end = 0; end <= 6; end++) {
            GivenSearch x = ended(end);
            for (int what = 0; what < 9; what++) {
                due("17: end " + end + ", asked " + what, x.asked(what), want[end][what]);
            }
            due("17: others", x.asked(9), -1);
            due("17: others", x.asked(-1), -1);
            Due.scopes(x, "{}");
            for (int what = -1; what < 10; what++) {
                due("17: without one", x.asked(what), -1);
            }
        }
    }

    private static void nodeOfEachEnd() {
        for (int end = 0; end <= 6; end++) {
            GivenSearch x = ended(end);
            int count = end == 0 ? 2 : 0;
            for (int k : new int[] {-1, 0, 1, 2, 3, 4, 20, 199, 200, 201}) {
                boolean isThere = k >= 0 && k < count;
                for (int what = -1; what < 9; what++) {
                    boolean isTold = isThere && what >= 0 && what < 8;
                    due("18: end " + end + ", node " + k + " " + what, x.node(k, what) == -2, !isTold);
                }
                due("19: end " + end + ", goal " + k, x.writeGoal(k), isThere ? k == 0 ? 1 : 4 : -1);
            }
            due("20: end " + end, x.writeTree(), end == 0 ? 6 : -1);
        }
    }

    /** "7 SIZE of its GOAL as it is at the end (101: above 100)", "NONE: its SIZE is above 100". */
    private static void nodeAbove100() {
        for (int n = 0; n <= 6; n++) {
            String more = "L(".repeat(n) + "b" + ")".repeat(n);
            GivenSearch x = Due.told("{A(a)<-F(a);F(T(b,b," + more + "))<-G(b);G(T(c,c,c))<-K(c);K(T(T(I,I,I),T(I,I,I),I));}");
            due("FOUND", Due.ask(x, 0, "A(q)"), 0);
            int size = 1 + 1 + 3 * 31 + n;
            due("18: SIZE " + size, x.node(0, 7), Math.min(size, 101));
            due("18: SIZE " + size, x.node(1, 7), Math.min(size, 101));
            due("18: SIZE 32", x.node(2, 7), 32);
            due("18: SIZE 11", x.node(3, 7), 11);
            int bytes = x.writeGoal(0);
            due("19: SIZE " + size, bytes > 0, size <= 100);
            due("21: SIZE " + size, x.writeAnswer(), bytes);
            due("19: SIZE " + size + " of the second", x.writeGoal(1), bytes);
            due("19: SIZE 32", x.writeGoal(2) > 0, true);
            due("20: the tree all the same", x.writeTree(), "g0(g1(g2(g3)))".length());
        }
        // 24 times as large as large can be: it is told as too large, not as what is left of it.
        GivenSearch x = Due.told("{H(Z,Z);H(L(a),P(b,b,b))<-H(a,b);}");
        due("FOUND", Due.ask(x, 0, "H(" + NINE + ",q)"), 0);
        for (int k = 0; k < 10; k++) {
            int deep = 9 - k;
            long size = 1 + deep + 1 + (long) ((Math.pow(3, deep + 1) - 1) / 2);
            due("18: SIZE " + size, x.node(k, 7), Math.min(size, 101));
            due("19: SIZE " + size, x.writeGoal(k) > 0, size <= 100);
        }
    }

    /** "WRITTEN by ORDER they are a, b, .. z, a1, b1, ..". */
    private static void varsByOrder() {
        GivenSearch x = Due.told("{F(a,b,c)<-G(a),G(b),G(c);G(D(a,b,c))<-H(a),H(b),H(c);H(D(a,b,c));J(z,y,P(a,y));}");
        due("FOUND", Due.ask(x, 0, "F(p,q,r)"), 0);
        StringBuilder want = new StringBuilder("F(");
        for (int i = 0; i < 27; i++) {
            want.append(i % 9 == 0 ? "D(D(" : i % 3 == 0 ? "D(" : "");
            want.append(i < 26 ? "" + (char) ('a' + i) : "a1");
            want.append(i % 9 == 8 ? "))" : i % 3 == 2 ? ")" : "").append(i < 26 ? ',' : ')');
        }
        Due.due("z, then a1", Due.answer(x), want.toString());
        Due.ask(x, 0, "J(b,b,c)");
        Due.due("as they come first", Due.answer(x), "J(a,a,P(b,a))");
        Due.ask(x, 0, "J(z,a,q)");
        Due.due("as they come first", Due.answer(x), "J(a,b,P(c,b))");
    }

    private static void writeTreeAtMost() {
        String tens = "N;".repeat(20);
        GivenSearch x = Due.told("{" + tens + "D(Z);D(L(a))<-D(a),D(a);R<-D(L(L(L(L(L(L(Z))))))),D(L(L(L(L(L(Z)))))),D(L(L(Z))),E;E<-D(Z);}");
        due("200 NODES", Due.ask(x, 0, "R"), 0);
        due("200 NODES", x.asked(5), 200);
        int length = x.writeTree();
        // Each g and two digits; a ( ) for each that has some below; a comma for each but the first of those below.
        int inner = 63 + 31 + 3 + 1 + 1;
        due("20: all of it", length, 3 * 200 + 2 * inner + (199 - inner));
        String begins = "g22(g21(g21(g21(g21(g21(g21(g20,g20),";
        String ends = ",g21(g20,g20)),g23(g20))";
        for (int k = 0; k < begins.length(); k++) {
            due("20: how it begins", x.octet(k), begins.charAt(k));
        }
        for (int k = 0; k < ends.length(); k++) {
            due("20: how it ends", x.octet(length - ends.length() + k), ends.charAt(k));
        }
        due("23: none behind", x.octet(length), -1);
        for (int g = 0; g < 24; g++) {
            x = Due.told("{" + "N;".repeat(g) + "A;" + "N;".repeat(23 - g) + "}");
            Due.ask(x, 0, "A");
            Due.due("20: its number", Due.tree(x), "g" + g);
        }
    }

    /** "NONE: its SIZE is above 100, for others": and what was written latest stays. */
    private static void writeAnswerOfEachEnd() {
        for (int end = 0; end <= 6; end++) {
            GivenSearch x = ended(end);
            due("written ahead", x.unified(0, 0), 1);
            due("21: end " + end, x.writeAnswer(), end == 0 ? 1 : end == 2 ? 4 : -1);
            due("21: end " + end, x.octet(0), end == 0 ? 'R' : 'A');
            due("21: end " + end, x.octet(2), end == 2 ? 'a' : -1);
            due("written ahead", x.unified(0, 0), 1);
            due("20: end " + end, x.writeTree() > 0, end == 0);
            due("20: what was written latest stays", x.octet(0), end == 0 ? 'g' : 'A');
            due("written ahead", x.unified(0, 0), 1);
            due("19: end " + end, x.writeGoal(0) > 0, end == 0);
            due("19: what was written latest stays", x.octet(0), end == 0 ? 'R' : 'A');
            Due.scopes(x, "{}");
            due("21: no asking", x.writeAnswer(), -1);
        }
    }

    private static void writeAnswerOf100() {
        GivenSearch x = Due.told("{A(a)<-B(L(P(a,a)));C(a,b)<-D;C(c,d);D;B(b)<-C(L(P(b,b)),P(b,b));}");
        due("AMBIGUOUS", Due.ask(x, 0, "A(" + NINE.replace("Z", "L(Z)") + ")"), 2);
        String ten = NINE.replace("Z", "L(Z)");
        String pair = "P(L(P(" + ten + "," + ten + ")),L(P(" + ten + "," + ten + ")))";
        Due.due("21: of SIZE 100, ahead of its BEST", Due.answer(x), "C(L(" + pair + ")," + pair + ")");
        due("19: there is no NODE", x.writeGoal(0), -1);
    }

    private static void bothOfEachEnd() {
        for (int end = 0; end <= 6; end++) {
            GivenSearch x = ended(end);
            due("22: the first, end " + end, x.both(0), end == 2 ? 1 : -1);
            due("22: the second, end " + end, x.both(1), end == 2 ? 2 : -1);
            due("22: others, end " + end, x.both(2), -1);
            due("22: others, end " + end, x.both(-1), -1);
            Due.ask(x, 0, "N(a,b)");
            due("22: the next asking isn't", x.both(0), -1);
        }
        GivenSearch x = Due.told("{" + "N;".repeat(22) + "A;A;}");
        due("AMBIGUOUS", Due.ask(x, 0, "A"), 2);
        due("22: the last but one", x.both(0), 22);
        due("22: the last", x.both(1), 23);
        due("AMBIGUOUS", Due.ask(x, 0, "N"), 2);
        due("22: the first of many", x.both(0), 0);
        due("22: the second of many", x.both(1), 1);
        due("none", Due.ask(x, 0, "B"), 1);
        due("22: no more", x.both(1), -1);
    }

    private static void octets() {
        GivenSearch x = Due.told("{A(Z)<-B;B;}");
        due("23: nothing was written", x.octet(0), -1);
        due("NONE", x.writeTree(), -1);
        due("23: nothing was written", x.octet(0), -1);
        Due.ask(x, 0, "A(q)");
        due("23: asking writes nothing", x.octet(0), -1);
        int length = x.writeAnswer();
        due("written", length, 4);
        String want = "A(Z)";
        for (int k = 0; k < 4; k++) {
            due("23: byte " + k, x.octet(k), want.charAt(k));
        }
        due("23: none behind", x.octet(4), -1);
        due("23: none ahead", x.octet(-1), -1);
        due("written", x.writeGoal(1), 1);
        due("23: the latest alone", x.octet(0), 'B');
        due("23: the latest alone", x.octet(1), -1);
        due("NONE", x.writeGoal(2), -1);
        due("23: the latest stays", x.octet(0), 'B');
        Due.scopes(x, "{}");
        due("23: the latest stays", x.octet(0), 'B');
        x.feed(0x43000000, 0, 0, 0, 0);
        due("23: the latest stays", x.octet(0), 'B');
    }

    // ---- 24 to 26

    /** "NONE: there was none, no such GIVEN". */
    private static void withoutOfEachEnd() {
        for (int end = 0; end <= 6; end++) {
            GivenSearch x = ended(end);
            int givens = x.is(1);
            for (int k = 0; k < givens; k++) {
                due("24: end " + end + " without " + k, x.without(k) >= 0, true);
            }
            due("24: no such GIVEN", x.without(givens), -1);
            due("24: no such GIVEN", x.without(-1), -1);
            Due.scopes(x, ENDS[end]);
            due("24: there was none", x.without(0), -1);
        }
    }

    /** How it would end: each of 0 to 6. */
    private static void withoutEnds() {
        String six = "D(L(L(L(L(L(L(Z)))))))";
        String seven = "D(L(L(L(L(L(L(L(Z))))))))";
        String[][] ways = {
            {"{A;A;}", "0"}, {"{A;}", "1"}, {"{A;A;A;}", "2"}, {"{A;A<-" + seven + ";D(Z);D(L(a))<-D(a),D(a);}", "3"},
            {"{A;A<-B(" + NINE + ",b);B(L(a),b)<-B(a,b);B(Z,b)<-C(" + NINE + ",b);C(L(a),b)<-C(a,b);}", "4"},
            {"{A;A<-G(b),C(T(b,b,T(b,b,b)));G(T(c,c,c))<-H(c);H(T(T(I,I,I),T(I,I,I),I));C(a);}", "5"},
        };
        for (String[] way : ways) {
            GivenSearch x = Due.told(way[0]);
            Due.ask(x, 0, "A");
            due("24: would end with " + way[1], x.without(0), way[1].charAt(0) - '0');
            due("24: would end so again", x.without(0), way[1].charAt(0) - '0');
        }
        // Of 127 NODES each: 6 by remembered ones; by none remembered there are too many GOALS ahead of that.
        GivenSearch x = Due.told("{A;A<-" + six + "," + six + ";D(Z);D(L(a))<-D(a),D(a);}");
        due("6 by remembered ones", Due.ask(x, 0, "A"), 6);
        due("24: 3 by none", x.without(0), 3);
        due("24: FOUND", x.without(1), 0);
    }

    /** "all else OUT, SHUT as it is now". */
    private static void withoutAsItIsNow() {
        for (int bits = 0; bits < 8; bits++) {
            GivenSearch x = Due.told("{A;{A;{A;}}}");
            due("FOUND", Due.ask(x, 2, "A"), 0);
            for (int shuts = 0; shuts < 8; shuts++) {
                for (int k = 0; k < 3; k++) {
                    x.out(k, (bits >> k & 1) == 1);
                    x.shut(k, (shuts >> k & 1) == 1);
                }
                int needed = 0;
                for (int k = 0; k < 3; k++) {
                    int left = 7 & ~bits & ~shuts & ~(1 << k);
                    due("24: without " + k + " now", x.without(k), left == 0 ? 1 : 0);
                    needed |= left == 0 ? 1 << k : 0;
                }
                due("25: needed now", x.needed(), needed);
                due("26: it was FOUND", x.mends(), -1);
                due("the asking is the same", x.asked(0), 0);
            }
        }
    }

    private static void neededOfEachEnd() {
        for (int end = 0; end <= 6; end++) {
            GivenSearch x = ended(end);
            due("25: end " + end, x.needed(), end == 0 ? 3 : -1);
            Due.scopes(x, ENDS[end]);
            due("25: there was none", x.needed(), -1);
        }
    }

    private static void neededOfAll() {
        GivenSearch x = Due.told("{R<-A,B,C,D;A<-E,F,G,H;B<-I,J,K,L;C<-M,N,O,P;D<-Q,S,T,U;U<-V,W,X;"
            + "E;F;G;H;I;J;K;L;M;N;O;P;Q;S;T;V;W;X;}");
        due("24 GIVENS", x.is(1), 24);
        due("FOUND", Due.ask(x, 0, "R"), 0);
        due("25: all of them", x.needed(), ALL24);
        for (int k = 0; k < 24; k++) {
            due("24: without " + k, x.without(k), 1);
        }
        due("FOUND", Due.ask(x, 0, "X"), 0);
        due("25: the last", x.needed(), 1 << 23);
        x = Due.told("{" + "N;".repeat(24) + "}");
        due("AMBIGUOUS", Due.ask(x, 0, "N"), 2);
        due("25: AMBIGUOUS", x.needed(), -1);
        for (int k = 0; k < 23; k++) {
            x.out(k, true);
        }
        due("FOUND", Due.ask(x, 0, "N"), 0);
        due("25: the last", x.needed(), 1 << 23);
        x.out(0, false);
        due("25: it would be AMBIGUOUS but without one of the two", x.needed(), ALL24 & ~1 & ~(1 << 23));
        x.out(23, true);
        x.out(0, true);
        due("25: it would not be FOUND in any way", x.needed(), ALL24);
    }

    /** "NONE: there was no asking, it was FOUND". */
    private static void mendsOfEachEnd() {
        for (int end = 0; end <= 6; end++) {
            GivenSearch x = ended(end);
            due("26: end " + end, x.mends(), end == 0 ? -1 : 0);
            Due.scopes(x, ENDS[end]);
            due("26: there was none", x.mends(), -1);
        }
        for (int end = 2; end <= 6; end++) {
            GivenSearch x = Due.told(ENDS[end].substring(0, ENDS[end].length() - 1) + "{R;}}");
            int last = x.is(1) - 1;
            x.out(last, true);
            due("ended with " + end, Due.ask(x, 1, "R"), end);
            due("26: the nearer one mends " + end, x.mends(), 1 << last);
            x.out(0, true);
            due("26: OUT as it is now", (x.mends() & 1 << last) != 0, true);
        }
    }

    private static void mendsOfAll() {
        GivenSearch x = Due.told("{" + "N;".repeat(24) + "}");
        for (int k = 0; k < 24; k++) {
            x.out(k, true);
        }
        due("NOT FOUND", Due.ask(x, 0, "N"), 1);
        due("26: each of them", x.mends(), ALL24);
        x.out(23, false);
        due("26: one more would be AMBIGUOUS", x.mends(), 0);
        x.shut(0, true);
        due("26: SHUT", x.mends(), 0);
        x.out(23, true);
        due("26: SHUT", x.mends(), 0);
        x.shut(0, false);
        due("26: opened", x.mends(), ALL24);
        due("NOT FOUND", Due.ask(x, 0, "M"), 1);
        due("26: none of them", x.mends(), 0);
    }

    /** "(nothing remembered, nothing stays; so needed(), mends())". */
    private static void whatWouldBeChangesNothing() {
        for (int end = 0; end <= 6; end++) {
            int last = ended(end).is(1);
            for (int k = 0; k <= last + 2; k++) {
                GivenSearch x = Due.told(ENDS[end].substring(0, ENDS[end].length() - 1) + "K;}");
                x.out(last, true);
                due("R ends with " + end, Due.ask(x, 0, "R"), end);
                x.unified(0, 0);
                String ahead = Seen.beyondFault(x);
                int got = k <= last ? x.without(k) : k == last + 1 ? x.needed() : x.mends();
                Due.due("24, 25, 26: nothing stays, end " + end, Seen.beyondFault(x), ahead);
                due("24, 25, 26: the same again", k <= last ? x.without(k) : k == last + 1 ? x.needed() : x.mends(), got);
                due("R ends again with " + end, Due.ask(x, 0, "R"), end);
            }
        }
        GivenSearch x = Due.told("{R<-A,A,N;A<-B;B;R<-M;}");
        due("NOT FOUND", Due.ask(x, 0, "R"), 1);
        int known = x.is(4);
        x.out(3, true);
        due("all is forgotten", x.is(4), 0);
        due("24: nothing remembered", x.without(1), 1);
        due("24: nothing remembered", x.is(4), 0);
        x.mends();
        due("26: nothing remembered", x.is(4), 0);
        x.out(3, false);
        due("NOT FOUND", Due.ask(x, 0, "R"), 1);
        due("24: none is met that was remembered", x.asked(2), 1);
        due("as many as at first", x.is(4), known);
    }

    // ---- 27

    private static void candidatesAtMost() {
        GivenSearch x = Due.told("{A(Z);{A(a);{N;{A(Y);A(b);{N;{" + "A(a);".repeat(16) + "A(Z);A(Z);}}}}}}");
        due("24 GIVENS", x.is(1), 24);
        Due.type(x, 3, "A(q)");
        Due.type(x, 2, "A(X)");
        for (int k = 0; k < 6; k++) {
            due("27: LEVELS of " + k, x.candidates(3, k, 0), k + 1);
        }
        due("27: the first LEVEL", x.candidates(3, 5, 1), 0);
        due("27: all", x.candidates(3, 5, 2), ALL24 & ~(1 << 2) & ~(1 << 5));
        due("27: the BEST", x.candidates(3, 5, 3), 1 << 22 | 1 << 23);
        due("27: the BEST of sixteen", x.candidates(2, 5, 3), 0xFFFF << 6);
        x.shut(5, true);
        due("27: the first LEVEL then", x.candidates(3, 5, 1), 2);
        due("27: its BEST", x.candidates(3, 5, 3), 8);
        x.shut(3, true);
        due("27: the first LEVEL then", x.candidates(3, 5, 1), 4);
        due("27: its BEST", x.candidates(3, 5, 3), 2);
        x.out(1, true);
        due("27: the last LEVEL then", x.candidates(3, 5, 1), 5);
        due("27: its BEST", x.candidates(3, 5, 3), 1);
        due("27: all", x.candidates(3, 5, 2), 1);
        due("27: none for the other", x.candidates(2, 5, 1), -1);
        x.shut(0, true);
        due("27: none then", x.candidates(3, 5, 1), -1);
        due("27: none then", x.candidates(3, 5, 2), 0);
        due("27: 0 without", x.candidates(3, 5, 3), 0);
        due("27: LEVELS all the same", x.candidates(3, 5, 0), 6);
    }

    /** "(its VARS UNKNOWNS)": whatever was built of VARS of these letters ahead of it. */
    private static void candidatesOfVars() {
        GivenSearch x = Due.told("{P(Z,a,Z);P(a,b,c);P(a,a,b);P(a,L(a),b);P(c,b,a)<-Q(a,b,c);}");
        Due.type(x, 0, "P(c,b,a)");
        Due.type(x, 1, "P(a,a,b)");
        Due.type(x, 2, "P(L(b),c,a)");
        int[] all = {31, 1 | 2 | 4 | 16, 2 | 4 | 8 | 16};
        int[] best = {1 | 4 | 8, 1 | 4, 4 | 8};
        for (int n = 0; n < 3; n++) {
            for (int i = 0; i < 3; i++) {
                x.unified(n, i);
                x.special(i, n);
                Due.ask(x, 0, "Q(c,b,a)");
                due("27: all of TYPE " + i, x.candidates(i, 0, 2), all[i]);
                due("27: the BEST of TYPE " + i, x.candidates(i, 0, 3), best[i]);
                due("27: the LEVEL of TYPE " + i, x.candidates(i, 0, 1), 0);
            }
        }
        x = Due.told("{A(Z);A(a);A(L(a));}");
        Due.type(x, 0, "A(a)");
        due("27: the first is the BEST, too", x.candidates(0, 0, 3), 1 | 4);
        Due.type(x, 0, "A(Z)");
        due("27: the first alone", x.candidates(0, 0, 3), 1);
    }

    private static void candidatesNone() {
        GivenSearch x = Due.told("{P(a,a);P(a,L(a));}");
        Due.type(x, 0, "P(p,p)");
        due("27: VARS of one letter are one UNKNOWN", x.candidates(0, 0, 2), 1);
        Due.type(x, 0, "P(p,q)");
        due("27: VARS of two are two", x.candidates(0, 0, 2), 3);
        due("27: the BEST", x.candidates(0, 0, 3), 3);
        Due.type(x, 0, "q");
        due("27: any", x.candidates(0, 0, 2), 3);
        Due.type(x, 0, "P");
        due("27: none", x.candidates(0, 0, 2), 0);
        due("27: none", x.candidates(0, 0, 1), -1);
        for (int what = -1; what < 6; what++) {
            boolean isTold = what >= 0 && what < 4;
            due("27: others, what " + what, x.candidates(1, 0, what), !isTold || what == 1 ? -1 : what == 0 ? 1 : 0);
            due("27: others, TYPE", x.candidates(4, 0, what), -1);
            due("27: others, SCOPE", x.candidates(0, 1, what), -1);
        }
    }

    // ---- 28

    private static int values(GivenSearch x, String type, int k, int d) {
        Due.type(x, 0, type);
        return x.values(0, k, d);
    }

    /** "at most d (0 .. 3) deep (0: without NEEDS)". */
    private static void valuesDeep() {
        GivenSearch x = Due.told("{E<-D;D<-C;C<-B;B<-A;A;E;}");
        String letters = "ABCDE";
        for (int n = 0; n < 5; n++) {
            for (int d = -2; d < 6; d++) {
                int want = d < 0 || d > 3 ? -1 : (n <= d ? 1 : 0) + (n == 4 ? 1 : 0);
                due("28: " + letters.charAt(n) + ", " + d + " deep", values(x, "" + letters.charAt(n), 0, d), want);
            }
        }
        x = Due.told("{A<-A;A;}");
        for (int d = 0; d < 4; d++) {
            due("28: nothing being CUT, " + d + " deep", values(x, "A", 0, d), d + 1);
        }
        x = Due.told("{A<-B,C,D,E;B;C<-B;D<-C;E<-N;E;}");
        int[] want = {0, 0, 0, 1};
        for (int d = 0; d < 4; d++) {
            due("28: by the deepest of four, " + d + " deep", values(x, "A", 0, d), want[d]);
        }
        x = Due.told("{X<-A,B;B<-A;A<-A;A;Y<-B,A;}");
        due("28: one TYPE at two depths", values(x, "X", 0, 3), 3 * 2);
        due("28: one TYPE at two depths", values(x, "X", 0, 2), 2);
        due("28: one TYPE at two depths", values(x, "Y", 0, 3), 2 * 3);
        x = Due.told("{X<-A,B;A<-C;C<-D;D;B<-A;Y<-B,A;}");
        due("28: it is too deep the second time", values(x, "X", 0, 3), 0);
        due("28: it is too deep the first time", values(x, "Y", 0, 3), 0);
        due("28: by itself", values(x, "A", 0, 2), 1);
        due("28: by itself", values(x, "B", 0, 3), 1);
        x = Due.told("{A;A;A<-B;B;B;{A;}}");
        due("28: nor AMBIGUOUS", values(x, "A", 1, 0), 3);
        due("28: nor AMBIGUOUS", values(x, "A", 1, 1), 5);
    }

    /** "1000000, if there are as many or more": 27 * 37 * 13 * 77 are one less. */
    private static void valuesOfAMillion() {
        String text = "{T;T;T;P<-T,T,T;Q<-T,T,T;Q<-T,T;Q;R<-T,T;R<-T;R;S<-T,T,T;S<-T,T,T;S<-T,T;S<-T,T;S<-T;S;S;W<-P,Q,R,S;";
        int[] want = {999999, 1000000, 1000000, 1000000};
        for (int more = 0; more < 4; more++) {
            GivenSearch x = Due.told(text + "W;".repeat(more) + "}");
            due("28: 27", values(x, "P", 0, 2), 27);
            due("28: 37", values(x, "Q", 0, 1), 37);
            due("28: 13", values(x, "R", 0, 3), 13);
            due("28: 77", values(x, "S", 0, 1), 77);
            due("28: 999999 and " + more, values(x, "W", 0, 2), want[more]);
            due("28: 999999 and " + more, values(x, "W", 0, 3), want[more]);
            due("28: not as deep", values(x, "W", 0, 1), more);
            x.out(0, true);
            due("28: far fewer", values(x, "W", 0, 3), 8 * 13 * 7 * 28 + more - (8 * 13 * 7 * (28 - 2 * 8 - 2 * 4 - 2 - 2)));
        }
    }

    private static void valuesOfManyMillions() {
        GivenSearch x = Due.told("{" + "Y;".repeat(10) + "X<-Y,Y,Y,Y;".repeat(6) + "W<-X,X,X,X;V<-W,W,W,W;V<-W,W,W,N;U<-W,N;U<-N,W;}");
        due("28: 60000", values(x, "X", 0, 3), 60000);
        due("28: too many for a number of 63 bits", values(x, "W", 0, 2), 1000000);
        due("28: too many for a number of 63 bits", values(x, "V", 0, 3), 1000000);
        due("28: none of too many", values(x, "U", 0, 3), 0);
        x = Due.told("{" + "A<-A,A,A,A;".repeat(12) + "A;".repeat(12) + "}");
        due("28: 12 and 12 of 12 * 12 * 12 * 12", values(x, "A", 0, 1), 12 + 12 * 12 * 12 * 12 * 12);
        due("28: 24 ways of many", values(x, "A", 0, 2), 1000000);
        due("28: 24 ways of many", values(x, "A", 0, 3), 1000000);
    }

    /** "NONE for others, if it isn't CLOSED (ahead of:) -2: one of these GIVENS has VARS in NEEDS that its RESULT has not". */
    private static void valuesRefused() {
        GivenSearch x = Due.told("{A(a)<-B(a,b);A(Z);{A(Z);C(c)<-C(c);}{D<-E(e);}}");
        for (int d = -1; d < 5; d++) {
            boolean isWell = d >= 0 && d <= 3;
            due("28: -2", values(x, "A(Z)", 0, d), isWell ? -2 : -1);
            due("28: -2 by a LEVEL around", values(x, "A(Z)", 1, d), isWell ? -2 : -1);
            due("28: -2 though none is for it", values(x, "N", 1, d), isWell ? -2 : -1);
            due("28: it isn't CLOSED", values(x, "A(a)", 0, d), -1);
            due("28: it isn't CLOSED", values(x, "q", 1, d), -1);
            due("28: no such SCOPE", values(x, "A(Z)", 3, d), -1);
            due("28: no such TYPE", x.values(4, 0, d), -1);
        }
        x.out(0, true);
        due("28: it is OUT", values(x, "A(Z)", 0, 3), 1);
        due("28: it is OUT", values(x, "A(Z)", 1, 3), 2);
        due("28: one of the SCOPE itself", values(x, "A(Z)", 2, 3), -2);
        x.shut(2, true);
        due("28: it is of a SHUT SCOPE", values(x, "A(Z)", 2, 3), 1);
        x.out(0, false);
        x.shut(2, false);
        x.shut(0, true);
        due("28: it is of a SHUT SCOPE", values(x, "A(Z)", 1, 3), 1);
        due("28: one of the SCOPE itself", values(x, "A(Z)", 2, 3), -2);
        due("28: its VARS are all in its RESULT", values(x, "C(Z)", 1, 3), 0);
    }

    private static void valuesOfAllLevels() {
        GivenSearch x = Due.told("{A;{A;{A;{A;{A;{A;}{A;}}}}}}");
        for (int k = 0; k < 7; k++) {
            int levels = Math.min(k, 5) + 1;
            due("28: of all LEVELS of " + k, values(x, "A", k, 0), levels);
            x.out(0, true);
            due("28: not of one that is OUT", values(x, "A", k, 0), levels - 1);
            x.out(0, false);
            x.shut(Math.min(k, 5), true);
            due("28: not of a SHUT SCOPE", values(x, "A", k, 3), k == 6 ? 6 : levels - 1);
            x.shut(Math.min(k, 5), false);
        }
    }

    // ---- the object

    /** "An object is used for at most 512 calls": the last of them answers as the first. */
    private static void lastCall() {
        GivenSearch x = new GivenSearch();
        x.feed(0x7B413B42, 0x3C2D413B, 0x7D000000, 0, 0);
        x.end(9);
        x.scopes();
        for (int calls = 3; calls < 509; calls++) {
            x.special(0, calls % 2);
        }
        x.feed(0x42000000, 0, 0, 0, 0);
        x.end(1);
        due("the 512th call", x.ask(0), 0);
    }

    /** What is told to one object is nothing to another. */
    private static void twoObjects() {
        GivenSearch x = Due.told("{A;}");
        GivenSearch y = Due.told("{B;B;}");
        Due.type(x, 0, "P(a,b)");
        due("x", Due.ask(x, 0, "A"), 0);
        due("y", Due.ask(y, 0, "A"), 1);
        x.out(0, true);
        y.shut(0, true);
        x.writeTree();
        due("y's written", y.octet(0), -1);
        due("x's OUT", x.is(2), 1);
        due("y's OUT", y.is(2), 0);
        due("x's SHUT", x.is(3), 0);
        due("y's TYPES", y.relation(0, 1, 3), 1);
        due("x's asking", x.asked(0), 0);
        x.feed(0, 0, 0, 0, 0);
        due("y's tape", y.is(5), 0);
        due("x's tree", x.writeTree(), 2);
    }
}
