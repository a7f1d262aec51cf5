import java.nio.charset.StandardCharsets;

/** What the tests share: texts are fed, answers are compared, wrong ones are printed and counted. */
final class Due {
    private static int wrong = 0;
    private static int compared = 0;

    private Due() {
    }

    static void due(String what, long got, long want) {
        compared++;
        if (got != want) {
            wrong++;
            System.out.println(what + " answered " + got + ", due is " + want);
        }
    }

    static void due(String what, boolean got, boolean want) {
        due(what, got ? 1 : 0, want ? 1 : 0);
    }

    static void due(String what, String got, String want) {
        compared++;
        if (!got.equals(want)) {
            wrong++;
            System.out.println(what + " answered " + got + ", due is " + want);
        }
    }

    /** Puts the text, and nothing else, on the tape. */
    static void tape(GivenSearch x, String text) {
        x.end(0);
        byte[] bytes = text.getBytes(StandardCharsets.ISO_8859_1);
        for (int at = 0; at < bytes.length; at += 20) {
            x.feed(word(bytes, at), word(bytes, at + 4), word(bytes, at + 8), word(bytes, at + 12), word(bytes, at + 16));
        }
        x.end(bytes.length);
    }

    private static int word(byte[] bytes, int at) {
        int word = 0;
        for (int i = at; i < at + 4; i++) {
            word = word << 8 | (i < bytes.length ? bytes[i] & 255 : 0);
        }
        return word;
    }

    static GivenSearch told(String text) {
        GivenSearch x = new GivenSearch();
        int givens = scopes(x, text);
        if (givens < 0) {
            due("scopes " + text, givens, 0);
        }
        return x;
    }

    static int scopes(GivenSearch x, String text) {
        tape(x, text);
        return x.scopes();
    }

    static int type(GivenSearch x, int i, String text) {
        tape(x, text);
        return x.type(i);
    }

    static int ask(GivenSearch x, int k, String goal) {
        tape(x, goal);
        return x.ask(k);
    }

    /** What was written latest, of which length the call told; the empty text for NONE. */
    static String written(GivenSearch x, int length) {
        StringBuilder text = new StringBuilder();
        for (int i = 0; i < length; i++) {
            text.append((char) x.octet(i));
        }
        return text.toString();
    }

    static String answer(GivenSearch x) {
        return written(x, x.writeAnswer());
    }

    static String tree(GivenSearch x) {
        return written(x, x.writeTree());
    }

    static String goal(GivenSearch x, int k) {
        return written(x, x.writeGoal(k));
    }

    /** Ends the test: with exit code 1 if an answer was wrong. */
    static void finish(String test) {
        System.out.println(test + ": " + compared + " answers compared, " + wrong + " wrong");
        if (wrong != 0 || compared == 0) {
            System.exit(1);
        }
    }
}
