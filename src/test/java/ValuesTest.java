import java.util.Random;

/** values() over random texts in which much is counted: compared with the Oracle, which counts each by itself. */
public final class ValuesTest {
    private static final int RUNS = 600;
    private static final String CONS = "KLMNOPQRS";

    private final Random random;
    private long middling;

    private ValuesTest(long seed) {
        random = new Random(seed);
    }

    public static void main(String[] args) throws Oracle.Fault {
        long middling = 0;
        for (int seed = 0; seed < RUNS; seed++) {
            ValuesTest test = new ValuesTest(seed);
            test.run(seed);
            middling += test.middling;
        }
        Due.due("neither few nor as many as can be, whether enough: " + middling, middling > 500, true);
        Due.finish("ValuesTest");
    }

    private int upTo(int n) {
        return random.nextInt(n);
    }

    /** Of at most so many signs, with leaves from among these. */
    private String type(int most, String leaves) {
        if (most < 2 || upTo(3) == 0) {
            return "" + leaves.charAt(upTo(leaves.length()));
        }
        int parts = 1 + upTo(Math.min(3, most - 1));
        StringBuilder text = new StringBuilder().append(CONS.charAt(parts - 1 + 3 * upTo(3)));
        int left = most - 1;
        for (int p = 0; p < parts; p++) {
            int behind = parts - 1 - p;
            int room = 1 + upTo(left - behind);
            text.append(p == 0 ? '(' : ',').append(type(room, leaves));
            left -= room;
        }
        return text.append(')').toString();
    }

    private String rule() {
        boolean isWide = upTo(3) == 0;
        StringBuilder text = new StringBuilder(upTo(3) == 0 ? "V(" + type(4, "ab") + ")" : isWide ? "V(P(a,b))" : "V(a)");
        String vars = text.indexOf("a") < 0 ? "b" : text.indexOf("b") < 0 ? "a" : "ab";
        int needs = 1 + upTo(4);
        for (int i = 0; i < needs; i++) {
            text.append(i == 0 ? "<-" : ",").append("V(").append(type(2 + upTo(8), vars)).append(')');
        }
        return text.append(';').toString();
    }

    private String fact() {
        return "V(" + type(1 + upTo(5), "abZ") + ");";
    }

    private String text() {
        StringBuilder text = new StringBuilder("{");
        int rules = 1 + upTo(7);
        int facts = 1 + upTo(9);
        for (int i = 0; i < rules; i++) {
            text.append(rule());
        }
        text.append('{');
        for (int i = 0; i < facts; i++) {
            text.append(fact());
        }
        return text.append("}}").toString();
    }

    private void run(int seed) throws Oracle.Fault {
        String text = text();
        if (text.length() > 780) {
            return;
        }
        Oracle o = Oracle.scopes(text);
        GivenSearch x = Due.told(text);
        Oracle.Type[] types = new Oracle.Type[4];
        StringBuilder told = new StringBuilder("run " + seed + ": " + text);
        for (int i = 0; i < 4; i++) {
            String type = "V(" + type(1 + upTo(11), "ZY") + ")";
            told.append(' ').append(type);
            Due.type(x, i, type);
            types[i] = Oracle.type(type);
            compare(told.toString(), x, o, i, types[i]);
        }
        int out = upTo(o.givens.size());
        o.outs.add(out);
        x.out(out, true);
        for (int i = 3; i >= 0; i--) {
            compare(told + ", OUT " + out, x, o, i, types[i]);
        }
    }

    private void compare(String what, GivenSearch x, Oracle o, int i, Oracle.Type type) {
        for (int d = 3; d >= 0; d--) {
            for (int k = 0; k < 2; k++) {
                long want = o.values(type, k, d);
                middling += want > 20 && want < 1000000 ? 1 : 0;
                Due.due(what + ", " + k + ", " + d, x.values(i, k, d), want);
            }
        }
    }
}
