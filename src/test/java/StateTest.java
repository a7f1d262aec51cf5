import java.lang.reflect.Array;
import java.lang.reflect.Field;
import java.lang.reflect.Modifier;
import java.util.Arrays;

/**
 * A call that is made again and again leaves all that the object holds as its first times left it: nothing in there
 * counts on from call to call, so that no run of calls, how long it may be, can bring it to an end that short ones
 * don't show.
 */
public final class StateTest {
    private static final String TEXT = "{S(Z);S(L(a))<-S(a);P(a,b,a);P(L(a),a,b);{S(Z)<-T;S(P(a,b,a))<-S(a),S(b);T;"
        + "A(a)<-B(L(a));B(a)<-A(a);{E(L(a),b,P(a,b))<-S(a),S(b);E(a,b,b)<-T;}}}";

    private StateTest() {
    }

    private interface Calls {
        void on(GivenSearch x);
    }

    public static void main(String[] args) throws IllegalAccessException {
        same("feed, end", x -> Due.tape(x, "{A(b)"));
        same("scopes", x -> Due.scopes(x, TEXT));
        same("scopes with a FAULT", x -> Due.scopes(x, "{A(b);A(c)<-;}"));
        same("out, shut", StateTest::outAndShut);
        same("special", StateTest::specials);
        same("clashes", GivenSearch::clashes);
        same("type", x -> Due.type(x, 1, "E(a,b,L(a))"));
        same("relation, unified", StateTest::relations);
        for (String goal : new String[] {"S(L(L(Z)))", "S(P(Z,L(Z),Z))", "S(a)", "A(Z)", "A(a)", "E(L(a),b,c)", "Y"}) {
            for (int k = 0; k < 3; k++) {
                int scope = k;
                same("ask " + goal, x -> ask(x, scope, goal));
                same("ask anew " + goal, x -> askAnew(x, scope, goal));
            }
        }
        same("candidates", StateTest::candidates);
        same("values", StateTest::values);
        Due.finish("StateTest");
    }

    private static void same(String what, Calls calls) throws IllegalAccessException {
        GivenSearch x = Due.told(TEXT);
        Due.type(x, 0, "P(a,b,c)");
        Due.type(x, 2, "P(L(a),L(b),L(L(a)))");
        Due.type(x, 3, "S(P(Z,L(Z),Z))");
        Due.ask(x, 1, "S(P(Z,L(Z),Z))");
        for (int i = 0; i < 4; i++) {
            calls.on(x);
        }
        String ahead = held(x);
        Due.due("what is held is seen", ahead.length() > 1000, true);
        for (int i = 0; i < 4; i++) {
            calls.on(x);
        }
        Due.due("what is held stays as it is, " + what, ahead.equals(held(x)), true);
    }

    // ---- what is called

    private static void outAndShut(GivenSearch x) {
        for (int k = -1; k < 12; k++) {
            x.out(k, true);
            x.shut(k, true);
            x.out(k, false);
            x.shut(k, false);
        }
    }

    private static void specials(GivenSearch x) {
        for (int i = 0; i < x.is(1); i++) {
            for (int j = 0; j < x.is(1); j++) {
                x.special(i, j);
            }
        }
    }

    private static void relations(GivenSearch x) {
        for (int i = 0; i < 4; i++) {
            for (int j = 0; j < 4; j++) {
                for (int what = 0; what < 4; what++) {
                    x.relation(i, j, what);
                }
                x.unified(i, j);
            }
        }
    }

    private static void ask(GivenSearch x, int k, String goal) {
        Due.ask(x, k, goal);
        Due.tree(x);
        Due.answer(x);
        for (int i = 0; i < x.asked(5); i++) {
            Due.goal(x, i);
            x.node(i, 7);
        }
        x.without(0);
        x.needed();
        x.mends();
    }

    private static void askAnew(GivenSearch x, int k, String goal) {
        x.out(4, true);
        Due.ask(x, k, goal);
        x.mends();
        x.out(4, false);
        ask(x, k, goal);
    }

    private static void candidates(GivenSearch x) {
        for (int i = 0; i < 4; i++) {
            for (int what = 0; what < 4; what++) {
                x.candidates(i, 2, what);
            }
        }
    }

    private static void values(GivenSearch x) {
        for (int i = 0; i < 4; i++) {
            for (int k = 0; k < 3; k++) {
                for (int d = 0; d < 4; d++) {
                    x.values(i, k, d);
                }
            }
        }
    }

    // ---- what is held

    private static String held(Object from) throws IllegalAccessException {
        StringBuilder into = new StringBuilder();
        add(into, from);
        return into.toString();
    }

    /** No object in there holds one that holds it, so this comes to an end. */
    private static void add(StringBuilder into, Object from) throws IllegalAccessException {
        if (from == null) {
            into.append("null");
            return;
        }
        if (from instanceof int[] row) {
            into.append(Arrays.toString(row));
            return;
        }
        if (from.getClass().isArray()) {
            for (int i = 0; i < Array.getLength(from); i++) {
                add(into.append(i), Array.get(from, i));
            }
            return;
        }
        for (Field f : from.getClass().getDeclaredFields()) {
            if (Modifier.isStatic(f.getModifiers())) {
                continue;
            }
            f.setAccessible(true);
            into.append('\n').append(f.getName()).append('=');
            if (f.getType().isPrimitive()) {
                into.append(f.get(from));
            } else {
                add(into, f.get(from));
            }
        }
    }
}
