/** What a TYPE, THE TEXT, a FAULT are, and the tape: each sentence of the document that names a boundary, by itself. */
public final class EdgesOfTextTest {
    private static final String SMALL = "abcdefghijklmnopqrstuvwxyz";
    private static final String LARGE = "ABCDEFGHIJKLMNOPQRSTUVWXYZ";
    private static final String LETTERS = SMALL + LARGE;
    private static final String TWELVE = "A(B(C,D,E),F(G,H,I),J(K,L))";

    private EdgesOfTextTest() {
    }

    public static void main(String[] args) {
        letters();
        bytesOfTypes();
        bytesOfTexts();
        bytesAtBounds();
        parts();
        needs();
        sizes();
        sizesOfResultAndNeeds();
        givens24();
        scopes8();
        scopesIn5Others();
        tooMuchAtItsFirstByte();
        endsTooEarly();
        nothingAtAll();
        tapeOf800();
        tapeOfAllBytes();
        tapeIsRefused();
        tapeIsEnded();
        endIsRefused();
        emptyTape();
        faultOfTheLatest();
        allStays();
        allIsNew();
        Due.finish("EdgesOfTextTest");
    }

    private static void due(String what, long got, long want) {
        Due.due(what, got, want);
    }

    // ---- which byte may come

    /** "a VAR: a letter a .. z; a CON: a letter A .. Z": each of the 256 bytes by itself. */
    private static void letters() {
        for (char c = 0; c < 256; c++) {
            GivenSearch x = new GivenSearch();
            boolean isLetter = LETTERS.indexOf(c) >= 0;
            due("a TYPE of the byte " + (int) c, Due.type(x, 0, "" + c), isLetter ? 1 : -1);
            due("the FAULT of the byte " + (int) c, x.fault(), isLetter ? -1 : 0);
            due("a part of the byte " + (int) c, Due.type(x, 1, "A(" + c + ")"), isLetter ? 2 : -1);
            due("the FAULT of the part " + (int) c, x.fault(), isLetter ? -1 : 2);
        }
        GivenSearch x = new GivenSearch();
        for (char c : LARGE.toCharArray()) {
            due("a CON may have parts", Due.type(x, 0, c + "(A)"), 2);
        }
        for (char c : SMALL.toCharArray()) {
            due("a VAR has none", Due.type(x, 0, c + "(A)"), -1);
            due("a VAR has none", x.fault(), 1);
        }
    }

    /** The bytes that may come behind what stands ahead: the others are the FAULT, these are not. */
    private static void typeGoesOn(String ahead, String bytes) {
        for (char c = 0; c < 256; c++) {
            GivenSearch x = Due.told("{}");
            String text = ahead + c;
            boolean isOpen = text.chars().filter(b -> b == '(').count() != text.chars().filter(b -> b == ')').count();
            int fault = bytes.indexOf(c) < 0 ? ahead.length() : isOpen ? text.length() : -1;
            due("type " + ahead + " and " + (int) c, Due.type(x, 3, text) < 0 ? 1 : 0, fault < 0 ? 0 : 1);
            due("fault of type " + ahead + " and " + (int) c, x.fault(), fault);
            due("ask " + ahead + " and " + (int) c, Due.ask(x, 0, text), fault < 0 ? 1 : -2);
            due("fault of ask " + ahead + " and " + (int) c, x.fault(), fault);
        }
    }

    private static void bytesOfTypes() {
        typeGoesOn("", LETTERS);
        typeGoesOn("A", "(");
        typeGoesOn("a", "");
        typeGoesOn("A(", LETTERS);
        typeGoesOn("A(B", "(,)");
        typeGoesOn("A(b", ",)");
        typeGoesOn("A(B,", LETTERS);
        typeGoesOn("A(B,C", "(,)");
        typeGoesOn("A(B,c", ",)");
        typeGoesOn("A(B,C,D", "()");
        typeGoesOn("A(B,C,d", ")");
        typeGoesOn("A(B)", "");
        typeGoesOn("A(B(C)", ",)");
        typeGoesOn("A(B,C,D(E)", ")");
        typeGoesOn("A(B(C,D,E),F(G,H,I),J(K", "(,)");
        typeGoesOn("A(B(C,D,E),F(G,H,I),J(K,L", "(,)");
        typeGoesOn("A(B(C,D,E),F(G,H,I),J(K,l", ",)");
        typeGoesOn("A(B(C,D,E),F(G,H,I),J(K,L,", "");
        typeGoesOn("A(B(C,D,E),F(G,H,I),J(K,L(", "");
        typeGoesOn(TWELVE, "");
    }

    private static void textGoesOn(String ahead, String bytes) {
        for (char c = 0; c < 256; c++) {
            GivenSearch x = new GivenSearch();
            String text = ahead + c;
            boolean isOpen = text.chars().filter(b -> b == '{').count() != text.chars().filter(b -> b == '}').count();
            int fault = bytes.indexOf(c) < 0 ? ahead.length() : isOpen ? text.length() : -1;
            due("scopes " + ahead + " and " + (int) c, Due.scopes(x, text) < 0 ? 1 : 0, fault < 0 ? 0 : 1);
            due("fault of " + ahead + " and " + (int) c, x.fault(), fault);
        }
    }

    private static void bytesOfTexts() {
        String item = "{" + LETTERS;
        textGoesOn("", "{");
        textGoesOn("{", item + "}");
        textGoesOn("{}", "");
        textGoesOn("{{", item + "}");
        textGoesOn("{{}", item + "}");
        textGoesOn("{{}}", "");
        textGoesOn("{A", "(<;");
        textGoesOn("{a", "<;");
        textGoesOn("{A(", LETTERS);
        textGoesOn("{A(B", "(,)");
        textGoesOn("{A(b", ",)");
        textGoesOn("{A(B,C,D", "()");
        textGoesOn("{A(B,C,d", ")");
        textGoesOn("{A(B)", "<;");
        textGoesOn("{A(B(C)", ",)");
        textGoesOn("{A<", "-");
        textGoesOn("{A<-", LETTERS);
        textGoesOn("{A<-B", "(,;");
        textGoesOn("{A<-b", ",;");
        textGoesOn("{A<-B(C", "(,)");
        textGoesOn("{A<-B(C)", ",;");
        textGoesOn("{A<-B,", LETTERS);
        textGoesOn("{A<-B,C,D", "(,;");
        textGoesOn("{A<-B,C,D,", LETTERS);
        textGoesOn("{A<-B,C,D,E", "(;");
        textGoesOn("{A<-B,C,D,e", ";");
        textGoesOn("{A<-B,C,D,E(F", "(,)");
        textGoesOn("{A<-B,C,D,E(F)", ";");
        textGoesOn("{A;", item + "}");
        textGoesOn("{A;{B;}", item + "}");
        textGoesOn("{A;{B;}}", "");
    }

    /** Where a bound is reached, the thing that would be too much is the FAULT at its first byte, no other one is. */
    private static void bytesAtBounds() {
        textGoesOn("{" + "A;".repeat(23), "{}" + LETTERS);
        textGoesOn("{" + "A;".repeat(24), "{}");
        textGoesOn("{{" + "A;".repeat(24) + "}", "{}");
        textGoesOn("{{}{}{}{}{}{}", "{}" + LETTERS);
        textGoesOn("{{}{}{}{}{}{}{}", "}" + LETTERS);
        textGoesOn("{{}{}{}{}{}{}{", "}" + LETTERS);
        textGoesOn("{{}{}{}{}{}{}{}" + "A;".repeat(24), "}");
        textGoesOn("{{{{{", "{}" + LETTERS);
        textGoesOn("{{{{{{", "}" + LETTERS);
        textGoesOn("{{{{{{}", "{}" + LETTERS);
        textGoesOn("{{{{{{}{}{}", "}" + LETTERS);
        textGoesOn("{A(B(C,D,E),F(G,H,I),J(K", "(,)");
        textGoesOn("{A(B(C,D,E),F(G,H,I),J(K,", LETTERS);
        textGoesOn("{A(B(C,D,E),F(G,H,I),J(K,L", "(,)");
        textGoesOn("{A(B(C,D,E),F(G,H,I),J(K,L,", "");
        textGoesOn("{A(B(C,D,E),F(G,H,I),J(K,L(", "");
        textGoesOn("{" + TWELVE, "<;");
        textGoesOn("{A<-" + TWELVE, ",;");
        textGoesOn("{A<-" + TWELVE + ",", LETTERS);
    }

    // ---- how many

    /** "( TYPE {, TYPE} ) (1 to 3)". */
    private static void parts() {
        GivenSearch x = new GivenSearch();
        due("no part in ( )", Due.type(x, 0, "A()"), -1);
        due("no part in ( )", x.fault(), 2);
        due("1 part", Due.type(x, 0, "A(b)"), 2);
        due("2 parts", Due.type(x, 0, "A(b,C)"), 3);
        due("3 parts", Due.type(x, 0, "A(b,C,d)"), 4);
        due("4 parts", Due.type(x, 0, "A(b,C,d,E)"), -1);
        due("4 parts", x.fault(), 7);
        due("3 parts in each", Due.type(x, 0, "A(B(c,d,e),f,g)"), 7);
        due("4 parts within", Due.type(x, 0, "A(B(c,d,e,f),f,g)"), -1);
        due("4 parts within", x.fault(), 9);
    }

    /** "perhaps <- and TYPES with , between (its NEEDS, 1 to 4)". */
    private static void needs() {
        String[] texts = {"{A;}", "{A<-B;}", "{A<-B,C;}", "{A<-B,C,D;}", "{A<-B,C,D,E;}"};
        for (int n = 0; n < texts.length; n++) {
            GivenSearch x = Due.told(texts[n]);
            due("NEEDS of " + texts[n], x.given(0, 1), n);
            due("NEEDS of all in " + texts[n], x.is(6), n);
        }
        GivenSearch x = new GivenSearch();
        due("<- and no NEED", Due.scopes(x, "{A<-;}"), -1);
        due("<- and no NEED", x.fault(), 4);
        due("5 NEEDS", Due.scopes(x, "{A<-B,C,D,E,F;}"), -1);
        due("5 NEEDS", x.fault(), 11);
        due("4 NEEDS of each of 24", Due.scopes(x, "{" + "A<-b,C,d,E;".repeat(24) + "}"), 24);
        due("4 NEEDS of each of 24", x.is(6), 96);
    }

    /** "SIZE: how many CONS, VARS stand in it", at most 12. */
    private static void sizes() {
        GivenSearch x = new GivenSearch();
        for (int n = 1; n <= 14; n++) {
            String chain = "L(".repeat(n - 1) + "a" + ")".repeat(n - 1);
            due("SIZE " + n + " in a chain", Due.type(x, 0, chain), n <= 12 ? n : -1);
            due("FAULT of SIZE " + n + " in a chain", x.fault(), n <= 12 ? -1 : 24);
        }
        due("a VAR that comes again counts again", Due.type(x, 0, "A(b,b,b)"), 4);
        due("a CON that comes again counts again", Due.type(x, 0, "A(A,A(A),A)"), 5);
        due("SIZE 12", Due.type(x, 0, TWELVE), 12);
        due("SIZE 13, a CON", Due.type(x, 0, "A(B(C,D,E),F(G,H,I),J(K,L,M))"), -1);
        due("SIZE 13, a CON", x.fault(), 26);
        due("SIZE 13, a VAR", Due.type(x, 0, "A(B(C,D,E),F(G,H,I),J(K,L(m)))"), -1);
        due("SIZE 13, a VAR", x.fault(), 26);
        due("what was TYPE 0 stays", x.relation(0, 0, 3), 12);
    }

    /** "12 SIZE of any TYPE": of the RESULT, of each NEED by itself, of a GOAL. */
    private static void sizesOfResultAndNeeds() {
        GivenSearch x = new GivenSearch();
        String five = TWELVE + "<-" + TWELVE + "," + TWELVE + "," + TWELVE + "," + TWELVE;
        due("12 of each", Due.scopes(x, "{" + five + ";}"), 1);
        due("its RESULT's", x.given(0, 3), 12);
        due("all NEEDS'", x.given(0, 4), 48);
        String large = "A(B(C,D,E),F(G,H,I),J(K,L,M))";
        String ahead = "{";
        for (int i = 0; i < 5; i++) {
            due("13 of TYPE " + i, Due.scopes(x, ahead + large + ";}"), -1);
            due("13 of TYPE " + i, x.fault(), ahead.length() + 26);
            ahead += TWELVE + (i == 0 ? "<-" : ",");
        }
        due("12 of a GOAL", Due.ask(x, 0, TWELVE), 1);
        due("13 of a GOAL", Due.ask(x, 0, large), -2);
        due("13 of a GOAL", x.fault(), 26);
    }

    private static void givens24() {
        GivenSearch x = new GivenSearch();
        for (int n = 0; n <= 26; n++) {
            int fault = n <= 24 ? -1 : 1 + 2 * 24;
            due(n + " GIVENS", Due.scopes(x, "{" + "A;".repeat(n) + "}"), n <= 24 ? n : -1);
            due("FAULT of " + n + " GIVENS", x.fault(), fault);
            due("what there is then", x.is(1), Math.min(n, 24));
        }
        due("24 in several SCOPES", Due.scopes(x, "{" + ("A;".repeat(5) + "{" + "A;".repeat(3) + "}").repeat(3) + "}"), 24);
        due("the 25th in another SCOPE", Due.scopes(x, "{" + "A;".repeat(24) + "{A(b)<-C;}}"), -1);
        due("the 25th in another SCOPE", x.fault(), 50);
        due("the 25th is a VAR", Due.scopes(x, "{{" + "A;".repeat(24) + "}{}a;}"), -1);
        due("the 25th is a VAR", x.fault(), 53);
    }

    private static void scopes8() {
        GivenSearch x = new GivenSearch();
        for (int n = 1; n <= 10; n++) {
            due(n + " SCOPES", Due.scopes(x, "{" + "{}".repeat(n - 1) + "}"), n <= 8 ? 0 : -1);
            due("FAULT of " + n + " SCOPES", x.fault(), n <= 8 ? -1 : 15);
            due("what there is then", x.is(0), Math.min(n, 8));
        }
        due("8 in one another and beside", Due.scopes(x, "{{{{{{}{}{}}}}}}"), 0);
        due("the 9th { as deep", Due.scopes(x, "{{{{{{}{}{}{}}}}}}"), -1);
        due("the 9th { as deep", x.fault(), 11);
        due("the 9th { in the first", Due.scopes(x, "{{{}{}}{{}{}}{}A;{}}"), -1);
        due("the 9th { in the first", x.fault(), 17);
    }

    private static void scopesIn5Others() {
        GivenSearch x = new GivenSearch();
        for (int n = 1; n <= 8; n++) {
            due(n + " in one another", Due.scopes(x, "{".repeat(n) + "}".repeat(n)), n <= 6 ? 0 : -1);
            due("FAULT of " + n + " in one another", x.fault(), n <= 6 ? -1 : 6);
        }
        for (int k = 0; k < 6; k++) {
            due("it lies in", x.scope(k, 2), k);
        }
        due("in 5 others, not the first way down", Due.scopes(x, "{{{}}{{{{{}}}}}}"), 0);
        due("in 6 others, not the first way down", Due.scopes(x, "{{}{{{{{{}}}}}}}"), -1);
        due("in 6 others, not the first way down", x.fault(), 8);
        due("in 6 others behind one in 5", Due.scopes(x, "{{{{{{}A;{{"), -1);
        due("in 6 others behind one in 5", x.fault(), 10);
    }

    /** "a thing too much (..) at its first byte". */
    private static void tooMuchAtItsFirstByte() {
        GivenSearch x = new GivenSearch();
        due("a { too much though it is never closed", Due.scopes(x, "{{{{{{{"), -1);
        due("a { too much though it is never closed", x.fault(), 6);
        due("a GIVEN too much though it is none", Due.scopes(x, "{" + "A;".repeat(24) + "A(("), -1);
        due("a GIVEN too much though it is none", x.fault(), 49);
        due("the FAULT ahead of it is told", Due.scopes(x, "{A<B;" + "A;".repeat(24) + "}"), -1);
        due("the FAULT ahead of it is told", x.fault(), 3);
        due("a CON too much though its parts are wrong", Due.type(x, 0, "A(B(C,D,E),F(G,H,I),J(K,L,M("), -1);
        due("a CON too much though its parts are wrong", x.fault(), 26);
        due("behind 12 no TYPE begins", Due.type(x, 0, "A(B(C,D,E),F(G,H,I),J(K,L,;"), -1);
        due("behind 12 no TYPE begins", x.fault(), 26);
    }

    /** "(its length, if it ends too early)": each beginning of a text that is whole. */
    private static void endsTooEarly() {
        String text = "{A(b,C)<-D(E(f),g,H),i;{}{J<-K,l,M,N;}" + TWELVE + ";}";
        GivenSearch x = new GivenSearch();
        for (int n = 0; n < text.length(); n++) {
            due("the first " + n + " of " + text, Due.scopes(x, text.substring(0, n)), -1);
            due("its FAULT", x.fault(), n);
        }
        x = new GivenSearch();
        due("all of it", Due.scopes(x, text), 3);
        due("no FAULT", x.fault(), -1);
        due("one byte more", Due.scopes(x, text + "}"), -1);
        due("one byte more", x.fault(), text.length());
        for (int n = 0; n < TWELVE.length(); n++) {
            int whole = n == 1 ? 1 : -1;
            due("the first " + n + " of " + TWELVE, Due.type(x, 0, TWELVE.substring(0, n)), whole);
            due("its FAULT", x.fault(), whole == 1 ? -1 : n);
        }
    }

    private static void nothingAtAll() {
        GivenSearch x = new GivenSearch();
        due("scopes of no byte", x.scopes(), -1);
        due("scopes of no byte", x.fault(), 0);
        due("type of no byte", x.type(0), -1);
        due("type of no byte", x.fault(), 0);
        due("{}", Due.scopes(x, "{}"), 0);
        due("{}", x.fault(), -1);
        due("ask of no byte", x.ask(0), -2);
        due("ask of no byte", x.fault(), 0);
        due("no GIVEN: nothing is NEEDED", x.is(6), 0);
        due("no GIVEN: nothing clashes", x.clashes(), 0);
        due("no GIVEN: NOT FOUND", Due.ask(x, 0, "a"), 1);
        due("no GIVEN: nothing was TRIED", x.asked(4), 0);
        due("no GIVEN: one GOAL was ASKED", x.asked(1), 1);
        due("no GIVEN: none mends", x.mends(), 0);
        due("no GIVEN: one without one", x.without(0), -1);
        due("no GIVEN: one LEVEL", x.candidates(0, 0, 0), 1);
        due("no GIVEN: none with CANDIDATES", x.candidates(0, 0, 1), -1);
        due("no GIVEN: no CANDIDATES", x.candidates(0, 0, 2), 0);
        due("no GIVEN: no BEST", x.candidates(0, 0, 3), 0);
        due("no GIVEN: no VALUES", x.values(0, 0, 3), 0);
    }

    // ---- the tape

    /** 796 bytes are a text as yet without its last GIVEN's end. */
    private static String of796() {
        return "{" + "A(B(C,D,E),F(G,H,I),J(K,L))<-A(B,C);".repeat(20) + "A(B,C,D);".repeat(3) + "A(B,C,D)<-B(C,D,E(F,G)),"
            + "B(C,D,E),B(C,D,E),B(C,D,";
    }

    /** "NONE, and none come, if there would be more than 800": 800 bytes are read to the last one. */
    private static void tapeOf800() {
        GivenSearch x = new GivenSearch();
        for (int i = 1; i <= 40; i++) {
            due("feed " + i, x.feed(-1, -1, -1, -1, -1), 20 * i);
        }
        due("a full tape", x.is(5), 800);
        due("none come", x.feed(0, 0, 0, 0, 0), -1);
        due("a full tape stays", x.is(5), 800);
        due("800 bytes", of796().length(), 796);
        due("a text of 800", Due.scopes(x, of796() + "E);}"), 24);
        due("no FAULT in it", x.fault(), -1);
        due("the last byte is the FAULT", Due.scopes(x, of796() + "E);;"), -1);
        due("the last byte is the FAULT", x.fault(), 799);
        due("800 bytes and none closes it", Due.scopes(x, of796() + "E);{"), -1);
        due("800 bytes and none closes it", x.fault(), 800);
        due("799 bytes and none closes it", Due.scopes(x, of796() + "E);"), -1);
        due("799 bytes and none closes it", x.fault(), 799);
    }

    /** "Twenty bytes come behind the tape, the highest of a first": each byte at each of the twenty places. */
    private static void tapeOfAllBytes() {
        GivenSearch x = new GivenSearch();
        String text = "{A;A;A;A;A;A;A;A;A;}";
        for (int at = 0; at < 20; at++) {
            String bytes = at == 0 ? "{" : at % 2 == 1 ? "{}" + LETTERS : "(<;";
            for (int octet = 0; octet < 256; octet++) {
                x = octet % 64 == 0 ? new GivenSearch() : x;
                int[] words = new int[5];
                for (int i = 0; i < 20; i++) {
                    words[i / 4] = words[i / 4] << 8 | (i == at ? octet : text.charAt(i));
                }
                x.end(0);
                due("feed", x.feed(words[0], words[1], words[2], words[3], words[4]), 20);
                due("byte " + at + " is " + octet, x.scopes(), octet == text.charAt(at) || at % 2 == 1
                    && LETTERS.indexOf(octet) >= 0 && at < 19 ? 9 : -1);
                Due.due("the FAULT of byte " + octet + " at " + at, x.fault() == at, bytes.indexOf(octet) < 0);
            }
        }
        due("any numbers", x.feed(Integer.MIN_VALUE, Integer.MAX_VALUE, -1, 0, 1), 20);
        due("any numbers", x.feed(-1, -1, -1, -1, -1), 40);
        x.type(0);
        due("any numbers", x.fault(), 0);
    }

    /** From 781 bytes on none come; what is there stays as it is. */
    private static void tapeIsRefused() {
        String text = of796() + "E);}";
        for (int n = 780; n <= 800; n++) {
            GivenSearch x = new GivenSearch();
            Due.tape(x, text.substring(0, n));
            due("feed behind " + n, x.feed(0x45293B7D, 0x45293B7D, 0x45293B7D, 0x45293B7D, 0x45293B7D), n == 780 ? 800 : -1);
            due("bytes then", x.is(5), n == 780 ? 800 : n);
            x.end(n);
            due("what was there stays", x.scopes(), n == 800 ? 24 : -1);
            due("what was there stays", x.fault(), n == 800 ? -1 : n);
        }
    }

    /** "The tape has its first n bytes alone". */
    private static void tapeIsEnded() {
        GivenSearch x = new GivenSearch();
        String text = "A(B,C,D)";
        for (int n = 20; n >= 0; n--) {
            Due.tape(x, text + "(".repeat(12));
            due("end " + n, x.end(n), n);
            due("bytes then", x.is(5), n);
            due("end " + n + " again", x.end(n), n);
            due("type of the first " + n, x.type(0), n == 8 ? 4 : n == 1 ? 1 : -1);
            due("fault of the first " + n, x.fault(), n == 8 || n == 1 ? -1 : Math.min(n, 8));
        }
        Due.tape(x, text + "(".repeat(12));
        x.end(1);
        due("what comes then is behind it", x.feed(0x28454647, 0, 0, 0, 0), 21);
        x.end(3);
        due("what comes then is behind it", x.type(0), -1);
        due("what comes then is behind it", x.fault(), 3);
        x.feed(0x41284129, 0, 0, 0, 0);
        x.end(2);
        x.feed(0x42290000, 0, 0, 0, 0);
        x.end(4);
        due("what comes then is behind it", x.type(0), 2);
    }

    /** "NONE, and nothing is done, if it has not so many, or n is below 0". */
    private static void endIsRefused() {
        GivenSearch x = new GivenSearch();
        int[] wrong = {-1, -2, Integer.MIN_VALUE, 21, 22, 800, 801, Integer.MAX_VALUE};
        for (int n : wrong) {
            Due.tape(x, "A(B,C,D(E,F,G),H,I)x");
            due("end " + n, x.end(n), -1);
            due("bytes then", x.is(5), 20);
            x.type(0);
            due("what was there stays", x.fault(), 14);
            due("end " + n + " of none", x.end(n), -1);
        }
        due("end 1 of none", x.end(1), -1);
        due("end 0 of none", x.end(0), 0);
        Due.tape(x, "A".repeat(800));
        due("end 801", x.end(801), -1);
        due("end 800", x.end(800), 800);
        due("end 799", x.end(799), 799);
        due("what is gone is gone", x.end(800), -1);
    }

    /** "(empty then)" of scopes(), type(), ask(), however they end. */
    private static void emptyTape() {
        String[] texts = {"{A;}", "{A;", "A", "A(", "", ";"};
        for (String text : texts) {
            GivenSearch x = new GivenSearch();
            for (int i = -1; i < 6; i++) {
                Due.tape(x, text);
                x.type(i);
                due("the tape behind type " + i + " of " + text, x.is(5), 0);
                Due.tape(x, text);
                x.ask(i);
                due("the tape behind ask " + i + " of " + text, x.is(5), 0);
            }
            Due.tape(x, text);
            x.scopes();
            due("the tape behind scopes of " + text, x.is(5), 0);
            due("what comes then is the first", x.feed(0x42000000, 0, 0, 0, 0), 20);
            x.end(1);
            due("what comes then is the first", x.type(0), 1);
        }
    }

    // ---- FAULT

    /** "The FAULT's place of the latest scopes(), type(), ask(); NONE, if that was well, for no such i, ahead of any." */
    private static void faultOfTheLatest() {
        GivenSearch x = new GivenSearch();
        due("ahead of any", x.fault(), -1);
        x.feed(0, 0, 0, 0, 0);
        x.end(30);
        due("feed, end are none of these", x.fault(), -1);
        x.end(0);
        Due.scopes(x, "{A;");
        due("scopes", x.fault(), 3);
        x.feed(0, 0, 0, 0, 0);
        x.end(-1);
        x.special(0, 0);
        x.out(0, true);
        x.unified(0, 9);
        due("it stays", x.fault(), 3);
        Due.type(x, 0, "A(B");
        due("type", x.fault(), 3);
        Due.type(x, 4, "A((");
        due("no such i", x.fault(), -1);
        Due.type(x, 0, "A((");
        due("type", x.fault(), 2);
        Due.type(x, -1, "A((");
        due("no such i", x.fault(), -1);
        Due.type(x, 0, "A((");
        Due.type(x, 0, "A");
        due("type that is well", x.fault(), -1);
        Due.type(x, 0, "");
        due("type", x.fault(), 0);
        Due.scopes(x, "{A;}");
        due("scopes that is well", x.fault(), -1);
        Due.ask(x, 0, "A,");
        due("ask", x.fault(), 1);
        Due.ask(x, 1, "A,");
        due("no such SCOPE", x.fault(), -1);
        Due.ask(x, 0, "A,");
        Due.ask(x, -1, "A");
        due("no such SCOPE", x.fault(), -1);
        Due.ask(x, 0, "A,");
        Due.ask(x, 0, "B");
        due("ask that is well", x.fault(), -1);
    }

    private static GivenSearch asked() {
        GivenSearch x = Due.told("{S(Z);S(L(a))<-S(a);{S(Y);}B;B;}");
        Due.type(x, 1, "P(a,L(b))");
        x.out(2, true);
        x.shut(1, true);
        due("ask", Due.ask(x, 0, "S(L(L(Z)))"), 0);
        x.unified(1, 1);
        return x;
    }

    /** "NONE: a FAULT (all stays)": whatever the FAULT. */
    private static void allStays() {
        String[] texts = {"", "{", "{S(Z);S(Q)<-Q;{{}}", "{" + "A;".repeat(25) + "}", "{".repeat(7), "{A;}}", "A", "{A(b,c);{};}"};
        for (String text : texts) {
            GivenSearch x = asked();
            String ahead = Seen.beyondFault(x) + Seen.types(x);
            due("scopes " + text, Due.scopes(x, text), -1);
            Due.due("all stays with " + text, Seen.beyondFault(x) + Seen.types(x), ahead);
            x = asked();
            due("scopes " + text, Due.scopes(x, text), -1);
            Due.due("the tree stays with " + text, Due.tree(x), "g1(g1(g0))");
            Due.due("the answer stays with " + text, Due.answer(x), "S(L(L(Z)))");
            Due.due("the GOALS stay with " + text, Due.goal(x, 1), "S(L(Z))");
            due("the GIVENS stay with " + text, x.special(1, 0), 0);
            due("the GIVENS stay with " + text, x.special(3, 4), 3);
            due("the GIVENS stay with " + text, x.needed(), 3);
            due("what was remembered stays", x.is(4), 3);
            due("what was remembered is met", Due.ask(x, 0, "S(L(L(Z)))"), 0);
            due("what was remembered is met", x.asked(2), 1);
        }
    }

    /** "nothing is OUT, SHUT; no asking was". */
    private static void allIsNew() {
        String text = "{S(Z);S(L(a))<-S(a);{S(Y);}}";
        String fresh = Seen.beyondFault(Due.told(text));
        for (int g = 0; g < 3; g++) {
            GivenSearch x = Due.told("{" + "A(B)<-C(d),e;".repeat(24) + "{{}{}}}");
            x.out(23 - g, true);
            x.shut(3 - g, true);
            Due.ask(x, 3, "A(B)");
            due("told", Due.scopes(x, text), 3);
            Due.due("told", Seen.beyondFault(x), fresh);
            Due.due("it was in", x.out(g, true), true);
            x.shut(g % 2, true);
            Due.ask(x, 1, "S(L(Z))");
            Due.ask(x, 0, "a");
            due("told again", Due.scopes(x, text), 3);
            Due.due("told again", Seen.beyondFault(x), fresh);
            due("FOUND then", Due.ask(x, 1, "S(L(Y))"), 0);
            due("none was remembered", x.asked(2), 0);
            Due.type(x, g, "P(a,L(b))");
            due("told again", Due.scopes(x, text), 3);
            due("the TYPES are no part of THE TEXT", x.relation(g, g, 3), 4);
        }
    }
}
