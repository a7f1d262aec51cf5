/** Each promise by itself: ordinary inputs, the edges that the document names, wrong inputs. */
public final class PromisesTest {
    private static final String LISTS = "{S(Z);S(L(a))<-S(a);{S(Z);}}";

    private PromisesTest() {
    }

    public static void main(String[] args) {
        newObject();
        feed();
        end();
        scopesAndFault();
        faults();
        bounds();
        is();
        scope();
        given();
        out();
        shut();
        special();
        specialOfLaterTexts();
        specialAmongOthers();
        clashes();
        type();
        relation();
        unified();
        ask();
        asked();
        node();
        writeGoal();
        writeTree();
        writeAnswer();
        both();
        octet();
        without();
        needed();
        mends();
        candidates();
        values();
        valuesManyOrNone();
        Due.finish("PromisesTest");
    }

    private static void due(String what, long got, long want) {
        Due.due(what, got, want);
    }

    // ---- 1 to 6

    private static void newObject() {
        GivenSearch x = new GivenSearch();
        for (int what = 0; what < 7; what++) {
            due("1: is " + what, x.is(what), 0);
        }
        due("1: scope", x.scope(0, 1), -2);
        due("1: given", x.given(0, 0), -1);
        due("1: fault", x.fault(), -1);
        due("1: asked", x.asked(0), -1);
        due("1: clashes", x.clashes(), 0);
        due("1: octet", x.octet(0), -1);
        due("1: ask", Due.ask(x, 0, "A"), -2);
        due("1: fault after ask", x.fault(), -1);
        due("1: NONE", GivenSearch.NONE, -1);
    }

    private static void feed() {
        GivenSearch x = new GivenSearch();
        due("2: feed", x.feed(0x41282829, 0, 0, 0, -1), 20);
        due("2: feed", x.feed(0x7B413B42, 0x3B437D00, 0, 0, 0), 40);
        due("2: the highest byte of a first", x.scopes(), -1);
        due("2: the highest byte of a first", x.fault(), 0);
        x.end(0);
        x.feed(0x7B41283B, 0, 0, 0, 0);
        x.scopes();
        due("2: the fourth byte", x.fault(), 3);
        x.end(0);
        x.feed(0x46284128, 0x42284329, 0x292C4428, 0x45284629, 0x292C47FF);
        due("2: all five", x.type(0), -1);
        due("2: all five", x.fault(), 19);
        for (int i = 1; i <= 40; i++) {
            due("2: feed " + i, x.feed(i, 0, 0, 0, 0), 20 * i);
        }
        due("2: feed above 800", x.feed(0, 0, 0, 0, 0), -1);
        due("2: none come", x.is(5), 800);
        x.end(781);
        due("2: feed above 800 by one", x.feed(0, 0, 0, 0, 0), -1);
        due("2: none come", x.is(5), 781);
        x.end(780);
        due("2: feed up to 800", x.feed(0, 0, 0, 0, 0), 800);
    }

    private static void end() {
        GivenSearch x = new GivenSearch();
        due("3: end 0 of none", x.end(0), 0);
        due("3: end 1 of none", x.end(1), -1);
        x.feed(0x41424344, 0, 0, 0, 0);
        due("3: end below 0", x.end(-1), -1);
        due("3: end above", x.end(21), -1);
        due("3: nothing is done", x.is(5), 20);
        due("3: end at all", x.end(20), 20);
        due("3: end", x.end(3), 3);
        due("3: end", x.is(5), 3);
        due("3: end above what is left", x.end(4), -1);
        due("3: end", x.end(1), 1);
        due("3: the first n bytes", x.type(0), 1);
    }

    private static void scopesAndFault() {
        GivenSearch x = new GivenSearch();
        due("4: scopes", Due.scopes(x, LISTS), 3);
        due("4: the tape is empty", x.is(5), 0);
        due("5: well", x.fault(), -1);
        due("4: ask", Due.ask(x, 1, "S(L(Z))"), 0);
        x.out(0, true);
        x.shut(1, true);
        due("4: ask again", Due.ask(x, 1, "S(L(Q))"), 1);
        due("4: remembered", x.is(4), 2);
        due("4: a FAULT", Due.scopes(x, "{A;"), -1);
        due("5: ends too early", x.fault(), 3);
        due("4: all stays, SCOPES", x.is(0), 2);
        due("4: all stays, GIVENS", x.is(1), 3);
        due("4: all stays, OUT", x.is(2), 1);
        due("4: all stays, SHUT", x.is(3), 2);
        due("4: all stays, remembered", x.is(4), 2);
        due("4: the tape is empty then, too", x.is(5), 0);
        due("4: the tape is empty then, too", x.feed(0, 0, 0, 0, 0), 20);
        due("4: all stays, the asking", x.asked(1), 2);
        due("5: ahead of another", x.fault(), 3);
        due("4: another text", Due.scopes(x, "{A;B<-A,A;}"), 2);
        due("5: well again", x.fault(), -1);
        due("4: nothing is OUT", x.is(2), 0);
        due("4: nothing is SHUT", x.is(3), 0);
        due("4: no asking was", x.asked(0), -1);
        due("4: no asking was, its tree", x.node(0, 0), -2);
        due("4: no asking was, its answer", x.writeAnswer(), -1);
        due("4: all is forgotten", x.is(4), 0);
        due("4: FOUND", Due.ask(x, 0, "B"), 0);
        due("4: its tree", x.writeTree(), 9);
        due("4: told again", Due.scopes(x, "{A;B<-A,A;}"), 2);
        due("4: no tree then", x.node(0, 0), -2);
        due("4: no tree then", x.writeTree(), -1);
        due("4: no tree then", x.writeGoal(0), -1);
        due("4: no tree then", x.writeAnswer(), -1);
        due("4: nothing is needed then", x.needed(), -1);
        due("4: nothing mends then", x.mends(), -1);
        due("4: without GIVENS", Due.scopes(x, "{}"), 0);
        due("4: without GIVENS", x.is(0), 1);
    }

    private static void fault(String text, int place) {
        GivenSearch x = new GivenSearch();
        due("4: scopes " + text, Due.scopes(x, text), -1);
        due("5: fault of " + text, x.fault(), place);
    }

    private static void faults() {
        fault("", 0);
        fault("A", 0);
        fault("}", 0);
        fault("{", 1);
        fault("{A", 2);
        fault("{A;", 3);
        fault("{A}", 2);
        fault("{;}", 1);
        fault("{A;}}", 4);
        fault("{A;}{", 4);
        fault("{A;} ", 4);
        fault("{{};}", 3);
        fault("{A<", 3);
        fault("{A<B;}", 3);
        fault("{A-B;}", 2);
        fault("{A<-;}", 4);
        fault("{A<-B,;}", 6);
        fault("{A<-B,C,D,E,F;}", 11);
        fault("{A,B;}", 2);
        fault("{A(;}", 3);
        fault("{A();}", 3);
        fault("{A(B;}", 4);
        fault("{A(B,;}", 5);
        fault("{A(B,C,D,E);}", 8);
        fault("{A(B));}", 5);
        fault("{a(B);}", 2);
        fault("{Aa;}", 2);
        fault("{A<-B{}}", 5);
        fault("{A;a1;}", 4);
        fault("{A; B;}", 3);
        fault("{@;}", 1);
        fault("{[;}", 1);
        fault("{`;}", 1);
    }

    private static String times(String s, int n) {
        return s.repeat(n);
    }

    private static void bounds() {
        String twelve = "A(B(C,D,E),F(G,H,I),J(K,L";
        due("4: SIZE 12", Due.scopes(new GivenSearch(), "{" + twelve + "));}"), 1);
        due("4: SIZE 12 of a NEED", Due.scopes(new GivenSearch(), "{A<-" + twelve + "))," + twelve + "));}"), 1);
        fault("{" + twelve + ",M));}", 27);
        fault("{A<-B," + twelve + ",m));}", 32);
        String chain = times("A(", 11) + "b" + times(")", 11);
        due("4: SIZE 12 in a chain", Due.scopes(new GivenSearch(), "{" + chain + ";}"), 1);
        fault("{A(" + chain + ");}", 25);
        due("4: 24 GIVENS", Due.scopes(new GivenSearch(), "{" + times("A;", 24) + "}"), 24);
        fault("{" + times("A;", 24) + "A;}", 49);
        fault("{" + times("A;", 12) + "{" + times("B;", 12) + "}a;}", 51);
        due("4: 8 SCOPES", Due.scopes(new GivenSearch(), "{" + times("{}", 7) + "}"), 0);
        fault("{" + times("{}", 8) + "}", 15);
        due("4: a SCOPE in 5 others", Due.scopes(new GivenSearch(), times("{", 6) + times("}", 6)), 0);
        fault(times("{", 7) + times("}", 7), 6);
        String full = "{" + times("A(B(C,D,E),F(G,H,I))<-A(B(C));", 24) + "}";
        due("4: a long text", Due.scopes(new GivenSearch(), full), 24);
        String long20 = times("A(B(C,D,E),F(G,H,I),J(K,L))<-A(B,C);", 20);
        String last = "A(B,C,D)<-B(C,D,E(F,G)),B(C,D,E),B(C,D,E),B(C,D,";
        String of796 = "{" + long20 + times("A(B,C,D);", 3) + last;
        due("4: 800 bytes", of796.length(), 796);
        due("4: 800 bytes", Due.scopes(new GivenSearch(), of796 + "E);}"), 24);
        fault(of796 + "E);;", 799);
        fault(of796 + "E)};", 798);
        fault(of796 + "E(F(", 800);
    }

    private static void is() {
        GivenSearch x = Due.told("{A;{B<-A,A;{C<-B;}}D<-A,B,C,D;}");
        due("6: SCOPES", x.is(0), 3);
        due("6: GIVENS", x.is(1), 4);
        due("6: NEEDS", x.is(6), 7);
        x.out(0, true);
        x.out(3, true);
        x.shut(2, true);
        due("6: OUT", x.is(2), 9);
        due("6: SHUT", x.is(3), 4);
        x.feed(0, 0, 0, 0, 0);
        due("6: bytes", x.is(5), 20);
        due("6: others", x.is(7), -1);
        due("6: others", x.is(-1), -1);
    }

    // ---- 7 to 15

    private static void scope() {
        GivenSearch x = Due.told("{A;{B;{C;D;}}{E;}F;{{}{}}}");
        int[] around = {-1, 0, 1, 0, 0, 4, 4};
        int[] own = {2, 1, 2, 1, 0, 0, 0};
        int[] lies = {0, 1, 2, 1, 1, 2, 2};
        int[] right = {3, 1, 0, 0, 2, 0, 0};
        for (int k = 0; k < 7; k++) {
            due("7: around " + k, x.scope(k, 0), around[k]);
            due("7: own " + k, x.scope(k, 1), own[k]);
            due("7: lies in " + k, x.scope(k, 2), lies[k]);
            due("7: right in " + k, x.scope(k, 3), right[k]);
        }
        due("7: others", x.scope(0, 4), -2);
        due("7: others", x.scope(0, -1), -2);
        due("7: others", x.scope(7, 0), -2);
        due("7: others", x.scope(-1, 0), -2);
        x.shut(2, true);
        x.out(2, true);
        due("7: SHUT and OUT are told elsewhere", x.scope(2, 1), 2);
    }

    private static void given() {
        GivenSearch x = Due.told("{A(a,b)<-B(b,c),C(d,c,F(L));{a;P(a,a)<-a,b,b,c;}}");
        int[][] want = {{0, 2, 4, 3, 8, 2}, {1, 0, 1, 1, 0, 0}, {1, 4, 3, 3, 4, 2}};
        for (int k = 0; k < 3; k++) {
            for (int what = 0; what < 6; what++) {
                due("8: given " + k + " " + what, x.given(k, what), want[k][what]);
            }
        }
        due("8: others", x.given(0, 6), -1);
        due("8: others", x.given(0, -1), -1);
        due("8: others", x.given(3, 0), -1);
        due("8: others", x.given(-1, 0), -1);
    }

    private static void out() {
        GivenSearch x = Due.told(LISTS);
        Due.ask(x, 0, "S(Z)");
        due("9: remembered", x.is(4), 1);
        Due.due("9: in already", x.out(0, false), false);
        due("9: nothing is forgotten", x.is(4), 1);
        Due.due("9: out", x.out(0, true), true);
        due("9: all is forgotten", x.is(4), 0);
        due("9: the asking stays", x.asked(5), 1);
        Due.due("9: out already", x.out(0, true), false);
        due("9: NOT FOUND then", Due.ask(x, 0, "S(Z)"), 1);
        due("9: remembered", x.is(4), 1);
        Due.due("9: in", x.out(0, false), true);
        due("9: all is forgotten", x.is(4), 0);
        due("9: FOUND again", Due.ask(x, 0, "S(Z)"), 0);
        Due.due("9: none such", x.out(3, true), false);
        Due.due("9: none such", x.out(-1, true), false);
        Due.due("9: none such", x.out(32, true), false);
        due("9: none such", x.is(2), 0);
    }

    private static void shut() {
        GivenSearch x = Due.told(LISTS);
        Due.ask(x, 1, "S(Z)");
        due("10: remembered", x.is(4), 1);
        Due.due("10: open already", x.shut(1, false), false);
        due("10: nothing is forgotten", x.is(4), 1);
        Due.due("10: shut", x.shut(1, true), true);
        due("10: all is forgotten", x.is(4), 0);
        Due.due("10: shut already", x.shut(1, true), false);
        due("10: bits", x.is(3), 2);
        due("10: the LEVEL around then", Due.ask(x, 1, "S(Z)"), 0);
        due("10: the LEVEL around then", x.node(0, 3), 1);
        Due.due("10: shut the other", x.shut(0, true), true);
        due("10: NOT FOUND then", Due.ask(x, 1, "S(Z)"), 1);
        Due.due("10: open", x.shut(1, false), true);
        due("10: FOUND then", Due.ask(x, 1, "S(Z)"), 0);
        due("10: bits", x.is(3), 1);
        Due.due("10: none such", x.shut(2, true), false);
        Due.due("10: none such", x.shut(-1, true), false);
        Due.due("10: none such", x.shut(32, true), false);
    }

    private static void special() {
        GivenSearch x = Due.told("{P(a,b);P(a,a);P(b,L(a));P(L(x),c);P(q,r);P(Z,L(Z));Q(Z);P(a);b;P(L(a),a);}");
        int[][] rows = {
            {0, 0, 3}, {0, 1, 2}, {1, 0, 1}, {0, 2, 2}, {0, 4, 3}, {4, 0, 3}, {1, 2, 4}, {2, 3, 4}, {3, 2, 4},
            {2, 5, 2}, {5, 2, 1}, {5, 6, 0}, {0, 7, 0}, {0, 8, 1}, {8, 6, 2}, {8, 8, 3}, {1, 9, 0}, {1, 3, 4},
            {5, 3, 0}, {9, 3, 1}, {5, 1, 0}, {9, 2, 4},
        };
        for (int[] row : rows) {
            due("11: special " + row[0] + " " + row[1], x.special(row[0], row[1]), row[2]);
        }
        x.out(1, true);
        x.shut(0, true);
        due("11: OUT and SHUT change nothing", x.special(1, 0), 1);
        due("11: others", x.special(0, 10), -1);
        due("11: others", x.special(10, 0), -1);
        due("11: others", x.special(-1, 0), -1);
        due("11: others", x.special(0, -1), -1);
    }

    private static void specialOfLaterTexts() {
        GivenSearch x = Due.told("{A(a);A(Z);}");
        due("11: the first text", x.special(0, 1), 2);
        Due.scopes(x, "{A(Z);A(Y);}");
        due("11: the second text", x.special(0, 1), 0);
        Due.scopes(x, "{A(Z);A(a);}");
        due("11: the third text", x.special(0, 1), 1);
        Due.scopes(x, "{A(Z);A(a)");
        due("11: after a FAULT", x.special(0, 1), 1);
        Due.scopes(x, "{P(a,Z);P(Z,a);}");
        due("11: the fourth text", x.special(0, 1), 4);
    }

    /** The end of ../shared/tests/SpecialAfterManyValues.java; that nothing counts on ahead of it is seen in StateTest. */
    private static void specialAmongOthers() {
        GivenSearch x = Due.told("{E(T(T(A,A),T(A,A,A)),a,a);E(T(T(A,A),T(A,A,A)),b,F(b));L(a,A);L(A,B);}");
        for (int i = 0; i < 200; i++) {
            due("11: these aren't UNIFIED", x.special(2, 3), 0);
            due("11: one would be in what is put for it", x.special(0, 1), 0);
        }
        due("12: nor do they clash", x.clashes(), 0);
    }

    private static void clashes() {
        GivenSearch x = Due.told("{A(a);A(b)<-A(a);A(Z);{A(a);P(a,L(b));P(L(c),d)<-A(c);P(Z,Z);}}");
        due("12: clashes", x.clashes(), 2);
        x.shut(0, true);
        due("12: SHUT changes nothing", x.clashes(), 2);
        x.out(1, true);
        due("12: none OUT", x.clashes(), 1);
        x.out(4, true);
        due("12: none OUT", x.clashes(), 0);
        x.out(1, false);
        due("12: in again", x.clashes(), 1);
        due("12: three alike", Due.told("{a;b;c;}").clashes(), 3);
    }

    private static void type() {
        GivenSearch x = new GivenSearch();
        due("13: A at first", x.relation(0, 3, 1), 1);
        due("13: type", Due.type(x, 2, "P(a,L(Z))"), 4);
        due("13: the tape is empty", x.is(5), 0);
        due("13: well", x.fault(), -1);
        due("13: type", x.relation(2, 2, 3), 4);
        due("13: a FAULT", Due.type(x, 2, "P(a,L(Z)"), -1);
        due("13: the tape is empty", x.is(5), 0);
        due("13: its place", x.fault(), 8);
        due("13: TYPE 2 stays", x.relation(2, 2, 3), 4);
        due("13: behind it", Due.type(x, 2, "Ab"), -1);
        due("13: behind it", x.fault(), 1);
        due("13: behind it", Due.type(x, 2, "A;"), -1);
        due("13: behind it", x.fault(), 1);
        due("13: empty", x.type(1), -1);
        due("13: empty", x.fault(), 0);
        due("13: no such", Due.type(x, 4, "("), -1);
        due("13: no such, no FAULT", x.fault(), -1);
        due("13: no such, the tape is empty", x.is(5), 0);
        due("13: no such", Due.type(x, -1, "A"), -1);
        due("13: SIZE 12", Due.type(x, 3, "A(B(C,D,E),F(G,H,I),J(K,l))"), 12);
        due("13: SIZE 13", Due.type(x, 3, "A(B(C,D,E),F(G,H,I),J(K,l,m))"), -1);
        due("13: SIZE 13", x.fault(), 26);
        due("13: a text is another thing", Due.type(x, 0, "{A;}"), -1);
        Due.scopes(x, "{A;}");
        due("13: TYPES stay with a new text", x.relation(3, 3, 3), 12);
    }

    private static GivenSearch types(String a, String b) {
        GivenSearch x = new GivenSearch();
        Due.type(x, 0, a);
        Due.type(x, 1, b);
        return x;
    }

    private static void relations(String a, String b, int... want) {
        GivenSearch x = types(a, b);
        for (int what = 0; what < 4; what++) {
            due("14: " + a + " " + b + " " + what, x.relation(0, 1, what), want[what]);
        }
    }

    private static void relation() {
        relations("A", "A", 1, 1, 1, 1);
        relations("A", "B", 0, 0, 0, -1);
        relations("A(B)", "A", 0, 0, 0, -1);
        relations("A(B)", "A(B,B)", 0, 0, 0, -1);
        relations("A(B,B)", "A(B)", 0, 0, 1, -1);
        relations("a", "b", 1, 1, 1, 1);
        relations("a", "A", 1, 0, 0, 1);
        relations("A", "a", 1, 1, 0, 1);
        relations("P(a,b)", "P(b,a)", 1, 1, 1, 3);
        relations("P(a,b)", "P(c,c)", 1, 0, 1, 3);
        relations("P(a,a)", "P(b,c)", 1, 1, 1, 3);
        relations("P(a,L(a))", "P(b,b)", 0, 0, 0, -1);
        relations("L(a)", "a", 0, 1, 0, -1);
        relations("P(a,L(b))", "P(L(c),a)", 1, 0, 1, 5);
        relations("P(L(Z),Z)", "P(Z,L(Z))", 0, 0, 1, -1);
        relations("P(L(Z),L(Z))", "P(a,a)", 1, 1, 0, 5);
        relations("P(L(Z),L(Y))", "P(a,a)", 0, 0, 0, -1);
        // d becomes 4 large, c 13, b 40: 1 + 41 + 40 + 18 in all.
        relations("R(a,P(c,c,c),Q(c,P(e,e,e)))", "R(L(b),b,Q(P(d,d,d),d))", 1, 0, 0, 100);
        relations("R(a,P(c,c,c),Q(c,P(e,e,e)))", "R(L(L(b)),b,Q(P(d,d,d),d))", 1, 0, 0, -1);
        relations("R(a,P(c,c,c),Q(c,P(e,e,e)))", "R(P(b,b,b),b,Q(P(d,d,d),d))", 1, 0, 1, -1);
        GivenSearch x = types("A", "A");
        due("14: others", x.relation(0, 1, 4), -1);
        due("14: others", x.relation(0, 1, -1), -1);
        due("14: others", x.relation(4, 1, 0), -1);
        due("14: others", x.relation(0, 4, 0), -1);
        due("14: others", x.relation(-1, 0, 0), -1);
    }

    private static void unified(String a, String b, String want) {
        GivenSearch x = types(a, b);
        Due.due("15: " + a + " " + b, Due.written(x, x.unified(0, 1)), want);
    }

    private static void unified() {
        unified("A", "A", "A");
        unified("A", "B", "");
        unified("z", "y", "a");
        unified("P(a,L(b))", "P(L(c),a)", "P(L(a),L(a))");
        unified("F(c,b,a)", "F(z,y,x)", "F(a,b,c)");
        unified("F(q,L(r),q)", "s", "F(a,L(b),a)");
        unified("L(a)", "a", "");
        unified("P(a,b)", "P(L(b),L(Z))", "P(L(L(Z)),L(Z))");
        String c = "P(P(a,a,a),P(a,a,a),P(a,a,a))";
        String b = "P(" + c + "," + c + "," + c + ")";
        String hundred = "R(L(" + b + ")," + b + ",Q(" + c + ",P(a,a,a)))";
        unified("R(a,P(c,c,c),Q(c,P(e,e,e)))", "R(L(b),b,Q(P(d,d,d),d))", hundred);
        unified("R(a,P(c,c,c),Q(c,P(e,e,e)))", "R(L(L(b)),b,Q(P(d,d,d),d))", "");
        GivenSearch x = types("A", "A");
        due("15: others", x.unified(0, 4), -1);
        due("15: others", x.unified(-1, 0), -1);
        due("15: how many bytes", x.unified(0, 1), 1);
        due("15: with itself", x.unified(2, 2), 1);
    }

    // ---- 16 to 23

    private static void ask() {
        GivenSearch x = Due.told(LISTS);
        due("16: FOUND", Due.ask(x, 0, "S(L(Z))"), 0);
        due("16: the tape is empty", x.is(5), 0);
        due("16: NOT FOUND", Due.ask(x, 0, "S(L(Y))"), 1);
        due("16: no such SCOPE", Due.ask(x, 2, "S(Z)"), -2);
        due("16: no such SCOPE, no FAULT", x.fault(), -1);
        due("16: the tape is empty", x.is(5), 0);
        due("16: no such SCOPE, though a FAULT", Due.ask(x, -1, "S("), -2);
        due("16: no such SCOPE, no FAULT", x.fault(), -1);
        due("16: a FAULT", Due.ask(x, 0, "S(L(Z)"), -2);
        due("16: its place", x.fault(), 6);
        due("16: the tape is empty", x.is(5), 0);
        due("16: the latest asking stays", x.asked(0), 1);
        due("16: SIZE 13", Due.ask(x, 0, "A(B(C,D,E),F(G,H,I),J(K,L,M))"), -2);
        due("16: SIZE 13", x.fault(), 26);
        due("16: well", Due.ask(x, 0, "S(Z)"), 0);
        due("16: well", x.fault(), -1);
        due("16: a VAR alone", Due.ask(Due.told("{A;}"), 0, "q"), 0);
    }

    private static void asked(GivenSearch x, String what, int... want) {
        for (int i = 0; i < want.length; i++) {
            due("17: " + what + ", asked " + i, x.asked(i), want[i]);
        }
    }

    private static void asked() {
        GivenSearch x = Due.told("{S(Z);S(L(a))<-S(a);S(P(a,b))<-S(a),S(b);N(a)<-M(a),S(a);}");
        due("17: without one", x.asked(0), -1);
        Due.ask(x, 0, "S(P(L(Z),P(Z,Z)))");
        // S(L(Z)), S(Z); S(P(Z,Z)) and its S(Z) twice, remembered.
        asked(x, "FOUND", 0, 6, 2, 0, 4, 6, 2, 3, 3);
        Due.ask(x, 0, "N(Z)");
        asked(x, "NOT FOUND", 1, 2, 0, 0, 1, 0, 0, 2, 0);
        Due.ask(x, 0, "S(P(Z,Z))");
        asked(x, "remembered", 0, 1, 1, 0, 0, 3, 1, 1, 2);
        Due.ask(x, 0, "N(Z)");
        asked(x, "remembered, NOT FOUND", 1, 1, 1, 0, 0, 0, 0, 1, 0);
        due("17: others", x.asked(9), -1);
        due("17: others", x.asked(-1), -1);
        x = Due.told("{A(a)<-A(L(a));}");
        Due.ask(x, 0, "A(L(Z))");
        asked(x, "CUT", 1, 2, 0, 1, 1, 0, 0, 2, 0);
    }

    private static void nodes(GivenSearch x, int k, int... want) {
        for (int what = 0; what < 8; what++) {
            due("18: node " + k + " " + what, x.node(k, what), want[what]);
        }
    }

    private static void node() {
        GivenSearch x = Due.told("{T(Z)<-N;T(Z);T(a)<-N;T(a);U(b);{U(Y);V(a,b)<-U(b),T(a);W(a)<-V(a,Z),U(c);}}");
        Due.ask(x, 1, "W(Z)");
        due("18: how it ends", x.asked(0), 0);
        nodes(x, 0, 7, -1, -1, 0, 1, 0, 0, 2);
        nodes(x, 1, 6, 0, 0, 0, 1, 0, 0, 3);
        nodes(x, 2, 4, 1, 0, 1, 1, 0, 0, 2);
        nodes(x, 3, 1, 1, 1, 1, 4, 1, 2, 2);
        nodes(x, 4, 5, 0, 1, 0, 1, 0, 0, 2);
        due("18: others", x.node(0, 8), -2);
        due("18: others", x.node(0, -1), -2);
        due("18: others", x.node(5, 0), -2);
        due("18: others", x.node(-1, 0), -2);
        Due.ask(x, 1, "N");
        due("18: NOT FOUND", x.node(0, 0), -2);
        x = Due.told("{H(Z,Z);H(L(a),P(b,b))<-H(a,b);}");
        Due.ask(x, 0, "H(L(L(L(L(L(L(Z)))))),q)");
        due("18: above 100", x.node(0, 7), 101);
        due("18: SIZE", x.node(1, 7), 70);
        due("18: SIZE", x.node(6, 7), 3);
    }

    private static void writeGoal() {
        GivenSearch x = Due.told("{F(Z,Y);G(a)<-F(a,b),E(b,c,d);E(Y,p,p);}");
        Due.ask(x, 0, "G(q)");
        Due.due("19: as it is at the end", Due.goal(x, 0), "G(Z)");
        Due.due("19: as it is at the end", Due.goal(x, 1), "F(Z,Y)");
        Due.due("19: UNKNOWNS by ORDER", Due.goal(x, 2), "E(Y,a,a)");
        due("19: how many bytes", x.writeGoal(2), 8);
        due("19: others", x.writeGoal(3), -1);
        due("19: others", x.writeGoal(-1), -1);
        Due.ask(x, 0, "N");
        due("19: NOT FOUND", x.writeGoal(0), -1);
        x = Due.told("{H(Z,Z);H(L(a),P(b,b))<-H(a,b);}");
        Due.ask(x, 0, "H(L(L(L(L(L(L(Z)))))),q)");
        due("19: above 100", x.writeGoal(0), -1);
        due("19: SIZE 70", x.writeGoal(1), Due.goal(x, 1).length());
        Due.due("19: many", Due.goal(x, 5), "H(L(Z),P(Z,Z))");
        // Twice 27 of them are new.
        x = Due.told("{A<-B(a,b);B(a,b)<-K(a),K(b);K(D(a,b,c))<-M(a),M(b),M(c);M(D(a,b,c))<-Q(a),Q(b),Q(c);Q(D(a,b,c));}");
        Due.ask(x, 0, "A");
        int[] next = new int[1];
        Due.due("19: z, then a1", Due.goal(x, 1), "B(" + threes(3, next) + "," + threes(3, next) + ")");
        due("19: how many VARS", next[0], 54);
    }

    private static String threes(int deep, int[] next) {
        if (deep == 0) {
            int n = next[0]++;
            return (char) ('a' + n % 26) + (n < 26 ? "" : "" + n / 26);
        }
        return "D(" + threes(deep - 1, next) + "," + threes(deep - 1, next) + "," + threes(deep - 1, next) + ")";
    }

    private static void writeTree() {
        GivenSearch x = Due.told("{A;B<-A,A;C<-B,A,B;" + "D;".repeat(8) + "E<-C,D;E<-F;F<-A;G<-F,F,C,A;}");
        due("20: none was asked", x.writeTree(), -1);
        Due.ask(x, 0, "A");
        Due.due("20: one NODE", Due.tree(x), "g0");
        Due.ask(x, 0, "C");
        Due.due("20: below", Due.tree(x), "g2(g1(g0,g0),g0,g1(g0,g0))");
        Due.ask(x, 0, "G");
        Due.due("20: two digits", Due.tree(x), "g14(g13(g0),g13(g0),g2(g1(g0,g0),g0,g1(g0,g0)),g0)");
        Due.ask(x, 0, "D");
        due("20: AMBIGUOUS", x.writeTree(), -1);
        Due.ask(x, 0, "N");
        due("20: NOT FOUND", x.writeTree(), -1);
    }

    private static void writeAnswer() {
        GivenSearch x = Due.told("{F(Z,Y);G(a)<-F(a,b);A(Z);A(Y);B(a)<-F(a,b),C(a,c,d);C(a,b,c)<-A(b);H(Z,a,b,a);}".replace("H(Z,a,b,a)", "H(Z,a,P(b,a))"));
        due("21: none was asked", x.writeAnswer(), -1);
        Due.ask(x, 0, "G(q)");
        Due.due("21: FOUND", Due.answer(x), "G(Z)");
        Due.ask(x, 0, "H(z,y,x)");
        Due.due("21: UNKNOWNS by ORDER", Due.answer(x), "H(Z,a,P(b,a))");
        due("21: AMBIGUOUS", Due.ask(x, 0, "B(q)"), 2);
        Due.due("21: AMBIGUOUS, ahead of its BEST", Due.answer(x), "A(a)");
        Due.ask(x, 0, "G(Y)");
        due("21: NOT FOUND", x.writeAnswer(), -1);
        x = Due.told("{H(Z,Z);H(L(a),P(b,b))<-H(a,b);S(a)<-S(L(a));S(a)<-S(M(a));}");
        Due.ask(x, 0, "H(L(L(L(L(L(L(Z)))))),q)");
        due("21: above 100", x.writeAnswer(), -1);
    }

    private static void both() {
        GivenSearch x = Due.told("{A(Z)<-N;A(Z);A(Z)<-N;A(Z);A(Z);B;C<-B,A(q);}");
        due("22: none was asked", x.both(0), -1);
        due("22: AMBIGUOUS", Due.ask(x, 0, "C"), 2);
        due("22: the first", x.both(0), 1);
        due("22: the second", x.both(1), 3);
        due("22: others", x.both(2), -1);
        due("22: others", x.both(-1), -1);
        due("22: all the BEST are TRIED", x.asked(4), 7);
        Due.ask(x, 0, "B");
        due("22: FOUND", x.both(0), -1);
        Due.ask(x, 0, "C");
        x.without(1);
        due("22: what would be changes nothing", x.both(0), 1);
        Due.scopes(x, "{}");
        due("22: no asking was", x.both(0), -1);
    }

    private static void octet() {
        GivenSearch x = types("P(a,Z)", "B");
        due("23: nothing was written", x.octet(0), -1);
        due("23: written", x.unified(0, 0), 6);
        int[] want = {'P', '(', 'a', ',', 'Z', ')'};
        for (int i = 0; i < 6; i++) {
            due("23: octet " + i, x.octet(i), want[i]);
        }
        due("23: none", x.octet(6), -1);
        due("23: none", x.octet(-1), -1);
        due("23: NONE is written", x.unified(0, 1), -1);
        due("23: what was written latest", x.octet(0), 'P');
        x.unified(1, 1);
        due("23: what was written latest", x.octet(0), 'B');
        due("23: what was written latest", x.octet(1), -1);
    }

    // ---- 24 to 28

    private static void without() {
        GivenSearch x = Due.told("{A<-B;B;{B;A<-C;C<-D;D;}}");
        due("24: there was none", x.without(0), -1);
        due("24: ask", Due.ask(x, 1, "A"), 0);
        Due.due("24: ask", Due.tree(x), "g3(g4(g5))");
        int known = x.is(4);
        due("24: another way", x.without(3), 0);
        due("24: another way", x.without(5), 0);
        due("24: nothing to do with it", x.without(1), 0);
        x.out(0, true);
        due("24: OUT as it is now", x.without(3), 1);
        due("24: OUT already", x.without(0), 0);
        x.out(0, false);
        x.shut(0, true);
        due("24: SHUT as it is now", x.without(3), 1);
        x.shut(0, false);
        due("24: no such GIVEN", x.without(6), -1);
        due("24: no such GIVEN", x.without(-1), -1);
        Due.ask(x, 1, "A");
        x.without(3);
        due("24: nothing stays", x.is(4), known);
        Due.due("24: nothing stays", Due.tree(x), "g3(g4(g5))");
        asked(x, "24: nothing stays", 0, 3, 0, 0, 3, 3, 2, 3, 3);
        x = Due.told("{A;A;B<-A;}");
        Due.ask(x, 0, "B");
        due("24: AMBIGUOUS", x.without(2), 1);
        due("24: AMBIGUOUS", x.without(0), 0);
        due("24: an asking that was NOT FOUND", Due.ask(x, 0, "N"), 1);
        due("24: an asking that was NOT FOUND", x.without(0), 1);
        // Remembered ones let the tree grow; where nothing is remembered, the GOALS are too many ahead of it.
        x = Due.told("{D(Z);D(L(a))<-D(a),D(a);N;}");
        due("24: ask", Due.ask(x, 0, "D(L(L(L(L(L(L(L(L(Z)))))))))"), 6);
        due("24: nothing remembered", x.without(2), 3);
    }

    private static void needed() {
        GivenSearch x = Due.told("{A<-B;B;{B;A<-C,E;C<-D;D;E;}}");
        due("25: there was none", x.needed(), -1);
        Due.ask(x, 1, "A");
        due("25: another way for all", x.needed(), 0);
        x.out(0, true);
        due("25: OUT as it is now", x.needed(), 1 << 3 | 1 << 4 | 1 << 5 | 1 << 6);
        Due.ask(x, 1, "A");
        due("25: the same", x.needed(), 1 << 3 | 1 << 4 | 1 << 5 | 1 << 6);
        Due.ask(x, 0, "B");
        due("25: one", x.needed(), 2);
        Due.ask(x, 0, "N");
        due("25: it wasn't FOUND", x.needed(), -1);
        x = Due.told("{A(a)<-B(a);B(Z)<-N;B(b);B(Z)<-B(Y);}");
        due("25: ask", Due.ask(x, 0, "A(Z)"), 0);
        Due.due("25: ask", Due.tree(x), "g0(g3(g2))");
        due("25: without one it is another", x.needed(), 1 | 4);
    }

    private static void mends() {
        GivenSearch x = Due.told("{A<-B;B;B;C<-A,D;D;}");
        due("26: there was no asking", x.mends(), -1);
        x.out(1, true);
        x.out(2, true);
        Due.ask(x, 0, "A");
        due("26: either", x.mends(), 6);
        Due.ask(x, 0, "C");
        due("26: either", x.mends(), 6);
        x.out(4, true);
        due("26: each alone is too little", x.mends(), 0);
        x.out(4, false);
        x.out(1, false);
        due("26: those that are OUT now", x.mends(), 0);
        x.out(2, false);
        x.out(0, true);
        due("26: AMBIGUOUS then", x.mends(), 0);
        int known = x.is(4);
        x.mends();
        due("26: nothing remembered", x.is(4), known);
        Due.ask(x, 0, "D");
        due("26: it was FOUND", x.mends(), -1);
        x = Due.told("{A(a)<-B(a);A(Z)<-N;A(Z)<-N;B(Z);B(b);}");
        x.out(3, true);
        x.out(4, true);
        x.shut(0, true);
        Due.ask(x, 0, "A(Z)");
        due("26: SHUT as it is now", x.mends(), 0);
        x.shut(0, false);
        due("26: SHUT as it is now", x.mends(), 24);
    }

    private static void candidates() {
        GivenSearch x = Due.told("{A(a);A(Z);B;{C;{A(L(b));A(c);A(L(Z));A(L(Y));}}}");
        Due.type(x, 0, "A(L(q))");
        due("27: LEVELS", x.candidates(0, 2, 0), 3);
        due("27: LEVELS", x.candidates(0, 0, 0), 1);
        due("27: the first LEVEL", x.candidates(0, 2, 1), 0);
        due("27: all", x.candidates(0, 2, 2), 1 | 16 | 32 | 64 | 128);
        due("27: the BEST", x.candidates(0, 2, 3), 64 | 128);
        due("27: from around", x.candidates(0, 1, 1), 1);
        due("27: from around", x.candidates(0, 1, 2), 1);
        due("27: from around", x.candidates(0, 1, 3), 1);
        x.out(6, true);
        x.out(7, true);
        due("27: not OUT", x.candidates(0, 2, 3), 16);
        x.shut(2, true);
        due("27: not SHUT", x.candidates(0, 2, 1), 2);
        due("27: not SHUT", x.candidates(0, 2, 2), 1);
        due("27: LEVELS all the same", x.candidates(0, 2, 0), 3);
        due("27: none", x.candidates(1, 2, 1), -1);
        due("27: none", x.candidates(1, 2, 2), 0);
        due("27: none", x.candidates(1, 2, 3), 0);
        due("27: others", x.candidates(0, 2, 4), -1);
        due("27: others", x.candidates(0, 2, -1), -1);
        due("27: others", x.candidates(0, 3, 0), -1);
        due("27: others", x.candidates(0, -1, 0), -1);
        due("27: others", x.candidates(4, 0, 0), -1);
        due("27: others", x.candidates(-1, 0, 0), -1);
        Due.type(x, 1, "A(a)");
        due("27: its VARS are others", x.candidates(1, 0, 2), 3);
    }

    private static void values(GivenSearch x, String type, int k, int... want) {
        Due.type(x, 0, type);
        for (int d = 0; d < 4; d++) {
            due("28: " + type + " in " + k + ", " + d + " deep", x.values(0, k, d), want[d]);
        }
    }

    private static void values() {
        GivenSearch x = Due.told("{S(Z);S(L(a))<-S(a);S(P(a,b))<-S(a),S(b);{S(Z);S(L(Z));}{S(a);}}");
        values(x, "S(Z)", 0, 1, 1, 1, 1);
        values(x, "S(Z)", 1, 2, 2, 2, 2);
        values(x, "S(L(Z))", 0, 0, 1, 1, 1);
        values(x, "S(L(Z))", 1, 1, 3, 3, 3);
        values(x, "S(P(Z,L(Z)))", 1, 0, 2, 6, 6);
        values(x, "S(P(Z,L(Z)))", 2, 1, 1 + 2, 1 + 2 * 3, 7);
        values(x, "S(Y)", 1, 0, 0, 0, 0);
        x.out(3, true);
        values(x, "S(Z)", 1, 1, 1, 1, 1);
        x.shut(0, true);
        values(x, "S(L(Z))", 1, 1, 1, 1, 1);
        x.shut(0, false);
        values(x, "S(L(Z))", 1, 1, 2, 2, 2);
        due("28: too deep", x.values(0, 1, 4), -1);
        due("28: below 0", x.values(0, 1, -1), -1);
        due("28: no such SCOPE", x.values(0, 3, 1), -1);
        due("28: no such SCOPE", x.values(0, -1, 1), -1);
        due("28: no such TYPE", x.values(4, 0, 1), -1);
        due("28: no such TYPE", x.values(-1, 0, 1), -1);
        // Nothing is CUT: the same one again and again.
        x = Due.told("{A<-A;A;}");
        values(x, "A", 0, 1, 2, 3, 4);
        x = Due.told("{P(a,a);P(a,b)<-P(a,a);}");
        values(x, "P(L(Z),L(Z))", 0, 1, 2, 3, 4);
        values(x, "P(L(Z),L(Y))", 0, 0, 1, 2, 3);
        // Two NEEDS of SIZE above 100 that are unlike at their ends alone.
        x = Due.told("{V(a)<-W(N(a,a,a));W(a)<-X(P(N(a,a,a),Z)),X(P(N(a,a,a),Y));X(P(a,Z))<-Z;X(P(a,Z))<-Z;X(P(a,Y))<-Z;Z;}");
        values(x, "V(L(L(L(L(L(L(L(L(L(L(Z)))))))))))", 0, 0, 0, 0, 2);
        values(x, "W(Z)", 0, 0, 0, 2, 2);
    }

    private static void valuesManyOrNone() {
        GivenSearch x = Due.told("{" + "Y;".repeat(10) + "X<-Y,Y,Y;W<-X,X;V<-W,W,N;U<-W,W;T<-Y,Y,X;T<-X,Y,Y,Y;}");
        values(x, "X", 0, 0, 1000, 1000, 1000);
        values(x, "W", 0, 0, 0, 1000000, 1000000);
        values(x, "V", 0, 0, 0, 0, 0);
        values(x, "U", 0, 0, 0, 0, 1000000);
        values(x, "T", 0, 0, 0, 1000000, 1000000);
        x.out(0, true);
        values(x, "W", 0, 0, 0, 531441, 531441);
        x = Due.told("{A<-B(a);B(Z);{C(a);D(a)<-C(b);}}");
        values(x, "C(Z)", 0, -2, -2, -2, -2);
        x.out(0, true);
        values(x, "C(Z)", 0, 0, 0, 0, 0);
        values(x, "C(Z)", 1, -2, -2, -2, -2);
        x.out(0, false);
        x.out(3, true);
        x.shut(0, true);
        values(x, "C(Z)", 1, 1, 1, 1, 1);
        x.shut(0, false);
        values(x, "C(a)", 1, -1, -1, -1, -1);
        due("28: NONE ahead of -2", x.values(0, 1, 4), -1);
        x = Due.told("{" + "A<-A,A,A,N;".repeat(23) + "A;}");
        values(x, "A", 0, 1, 1, 1, 1);
        x = Due.told("{A<-B;B;{A;{A;{A;{A;{A;}}}}}}");
        values(x, "A", 5, 5, 6, 6, 6);
        x.shut(0, true);
        values(x, "A", 5, 5, 5, 5, 5);
    }
}
