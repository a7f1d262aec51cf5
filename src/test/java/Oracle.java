import java.util.ArrayList;
import java.util.HashMap;
import java.util.LinkedHashSet;
import java.util.List;
import java.util.Map;
import java.util.Set;
import java.util.TreeSet;

/**
 * The document read a second time, as plainly as can be: terms that never change, a map of what is put for UNKNOWNS
 * that is copied at every step, exceptions for the ends 2 to 6. It shares no code with the program.
 */
final class Oracle {

    record Type(char letter, int var, List<Type> parts) {
        boolean isVar() {
            return var >= 0;
        }
    }

    static final class Fault extends Exception {
        private static final long serialVersionUID = 1L;
        final int place;

        Fault(int place) {
            this.place = place;
        }
    }

    static final class End extends RuntimeException {
        private static final long serialVersionUID = 1L;
        final int code;

        End(int code) {
            super(null, null, false, false);
            this.code = code;
        }
    }

    static final class Given {
        int scope;
        Type result;
        List<Type> needs = new ArrayList<>();
    }

    static final class Tree {
        int given;
        int level;
        int candidates;
        int failed;
        Type goal;
        String frozen;
        int frozenSize;
        List<Tree> below = new ArrayList<>();

        int count() {
            int n = 1;
            for (Tree t : below) {
                n += t.count();
            }
            return n;
        }
    }

    record Known(int scope, String goal, Tree tree) {
    }

    record Under(int given, Type goal) {
    }

    record Held(Tree tree, Map<Integer, Type> put) {
    }

    List<Integer> around = new ArrayList<>();
    List<Given> givens = new ArrayList<>();
    Set<Integer> outs = new TreeSet<>();
    Set<Integer> shuts = new TreeSet<>();
    List<Known> known = new ArrayList<>();

    // ---- reading

    private String text;
    private int at;

    private char next() {
        return at < text.length() ? text.charAt(at) : (char) 999;
    }

    private void pass(char c) throws Fault {
        if (next() != c) {
            throw new Fault(at);
        }
        at++;
    }

    private Type readType(int[] size) throws Fault {
        char c = next();
        boolean isVar = c >= 'a' && c <= 'z';
        boolean isCon = c >= 'A' && c <= 'Z';
        if (!isVar && !isCon || size[0] == 12) {
            throw new Fault(at);
        }
        at++;
        size[0]++;
        if (isVar) {
            return new Type(c, c - 'a', List.of());
        }
        List<Type> parts = new ArrayList<>();
        if (next() == '(') {
            at++;
            parts.add(readType(size));
            while (next() == ',' && parts.size() < 3) {
                at++;
                parts.add(readType(size));
            }
            pass(')');
        }
        return new Type(c, -1, parts);
    }

    static Type type(String text) throws Fault {
        Oracle o = new Oracle();
        o.text = text;
        Type t = o.readType(new int[1]);
        if (o.at < text.length()) {
            throw new Fault(o.at);
        }
        return t;
    }

    static Oracle scopes(String text) throws Fault {
        Oracle o = new Oracle();
        o.text = text;
        o.readScope(-1, 0);
        if (o.at < text.length()) {
            throw new Fault(o.at);
        }
        return o;
    }

    private void readScope(int outer, int depth) throws Fault {
        if (next() == '{' && (depth > 5 || around.size() == 8)) {
            throw new Fault(at);
        }
        pass('{');
        int me = around.size();
        around.add(outer);
        while (next() != '}') {
            if (next() == '{') {
                readScope(me, depth + 1);
                continue;
            }
            if (givens.size() == 24) {
                throw new Fault(at);
            }
            Given g = new Given();
            g.scope = me;
            g.result = readType(new int[1]);
            if (next() == '<') {
                pass('<');
                pass('-');
                g.needs.add(readType(new int[1]));
                while (next() == ',' && g.needs.size() < 4) {
                    at++;
                    g.needs.add(readType(new int[1]));
                }
            }
            pass(';');
            givens.add(g);
        }
        pass('}');
    }

    // ---- types

    static Type solved(Type t, Map<Integer, Type> put) {
        Type at = t;
        while (at.isVar() && put.containsKey(at.var)) {
            at = put.get(at.var);
        }
        return at;
    }

    static boolean stands(int var, Type t, Map<Integer, Type> put) {
        Type s = solved(t, put);
        if (s.isVar()) {
            return s.var == var;
        }
        for (Type p : s.parts) {
            if (stands(var, p, put)) {
                return true;
            }
        }
        return false;
    }

    static boolean unify(Type a, Type b, Map<Integer, Type> put) {
        Type x = solved(a, put);
        Type y = solved(b, put);
        if (x.isVar() && y.isVar() && x.var == y.var) {
            return true;
        }
        if (x.isVar()) {
            if (stands(x.var, y, put)) {
                return false;
            }
            put.put(x.var, y);
            return true;
        }
        if (y.isVar()) {
            return unify(y, x, put);
        }
        if (x.letter != y.letter || x.parts.size() != y.parts.size()) {
            return false;
        }
        for (int i = 0; i < x.parts.size(); i++) {
            if (!unify(x.parts.get(i), y.parts.get(i), put)) {
                return false;
            }
        }
        return true;
    }

    /** Whether general becomes t by putting TYPES for its VARS. */
    static boolean becomes(Type general, Type t, Map<Integer, Type> put) {
        if (general.isVar()) {
            Type former = put.putIfAbsent(general.var, t);
            return former == null || former.equals(t);
        }
        if (t.isVar() || general.letter != t.letter || general.parts.size() != t.parts.size()) {
            return false;
        }
        for (int i = 0; i < t.parts.size(); i++) {
            if (!becomes(general.parts.get(i), t.parts.get(i), put)) {
                return false;
            }
        }
        return true;
    }

    static boolean isCase(Type t, Type general) {
        return becomes(general, t, new HashMap<>());
    }

    /** Capped at 101. */
    static int size(Type t, Map<Integer, Type> put) {
        Type s = solved(t, put);
        int sum = 1;
        for (Type p : s.parts) {
            sum += size(p, put);
            if (sum > 100) {
                return 101;
            }
        }
        return sum;
    }

    static Set<Character> cover(Type t, Map<Integer, Type> put) {
        Type s = solved(t, put);
        Set<Character> all = new TreeSet<>();
        if (!s.isVar()) {
            all.add(s.letter);
        }
        for (Type p : s.parts) {
            all.addAll(cover(p, put));
        }
        return all;
    }

    static Set<Integer> vars(Type t, Map<Integer, Type> put) {
        Type s = solved(t, put);
        Set<Integer> all = new LinkedHashSet<>();
        if (s.isVar()) {
            all.add(s.var);
        }
        for (Type p : s.parts) {
            all.addAll(vars(p, put));
        }
        return all;
    }

    static String write(Type t, Map<Integer, Type> put) {
        List<Integer> order = new ArrayList<>(vars(t, put));
        StringBuilder out = new StringBuilder();
        write(t, put, order, out);
        return out.toString();
    }

    private static void write(Type t, Map<Integer, Type> put, List<Integer> order, StringBuilder out) {
        Type s = solved(t, put);
        if (s.isVar()) {
            int n = order.indexOf(s.var);
            out.append((char) ('a' + n % 26));
            if (n >= 26) {
                out.append(n / 26);
            }
            return;
        }
        out.append(s.letter);
        String between = "(";
        for (Type p : s.parts) {
            out.append(between);
            write(p, put, order, out);
            between = ",";
        }
        if (!s.parts.isEmpty()) {
            out.append(')');
        }
    }

    // ---- asking

    int goals;
    int met;
    int cut;
    int tried;
    int goalsDeep;
    int first = -1;
    int second = -1;
    String clash = "";
    Tree found;
    int ended = -1;
    private int start;
    private boolean remembers;
    private int fresh;

    int run(Type goal, int scope, boolean remembering) {
        goals = 0;
        met = 0;
        cut = 0;
        tried = 0;
        goalsDeep = 0;
        fresh = 1000;
        start = scope;
        remembers = remembering;
        found = null;
        try {
            Held held = ask(goal, new HashMap<>(), List.of());
            if (held != null) {
                freeze(held.tree, held.put);
                found = held.tree;
            }
            ended = held == null ? 1 : 0;
        } catch (End end) {
            ended = end.code;
        }
        return ended;
    }

    private static void freeze(Tree tree, Map<Integer, Type> put) {
        if (tree.frozen == null) {
            tree.frozenSize = size(tree.goal, put);
            tree.frozen = tree.frozenSize > 100 ? "" : write(tree.goal, put);
        }
        for (Tree t : tree.below) {
            freeze(t, put);
        }
    }

    private static Tree copy(Tree tree) {
        Tree made = new Tree();
        made.given = tree.given;
        made.level = tree.level;
        made.candidates = tree.candidates;
        made.failed = tree.failed;
        made.goal = tree.goal;
        made.frozen = tree.frozen;
        made.frozenSize = tree.frozenSize;
        for (Tree t : tree.below) {
            made.below.add(copy(t));
        }
        return made;
    }

    private Type renamed(Type t, Map<Integer, Integer> names) {
        if (t.isVar()) {
            return new Type('?', names.computeIfAbsent(t.var, v -> fresh++), List.of());
        }
        List<Type> parts = new ArrayList<>();
        for (Type p : t.parts) {
            parts.add(renamed(p, names));
        }
        return new Type(t.letter, -1, parts);
    }

    private Held ask(Type goal, Map<Integer, Type> put, List<Under> under) {
        if (goals == 200) {
            throw new End(3);
        }
        if (under.size() == 20) {
            throw new End(4);
        }
        if (size(goal, put) > 100) {
            throw new End(5);
        }
        goals++;
        goalsDeep = Math.max(goalsDeep, under.size() + 1);
        boolean isClosed = vars(goal, put).isEmpty();
        String name = write(goal, put);
        if (isClosed && remembers) {
            for (Known k : known) {
                if (k.scope == start && k.goal.equals(name)) {
                    met++;
                    return k.tree == null ? null : new Held(copy(k.tree), put);
                }
            }
        }
        int cutAhead = cut;
        Held held = seek(goal, put, under);
        if (isClosed && remembers && cut == cutAhead && known.size() < 40) {
            Tree kept = null;
            if (held != null) {
                kept = copy(held.tree);
                freeze(kept, held.put);
            }
            known.add(new Known(start, name, kept));
        }
        return held;
    }

    List<Integer> suited(Type goal, Map<Integer, Type> put, int scope) {
        List<Integer> all = new ArrayList<>();
        for (int g = 0; g < givens.size(); g++) {
            boolean isUsed = givens.get(g).scope == scope && !outs.contains(g) && !shuts.contains(scope);
            if (isUsed && unify(renamed(givens.get(g).result, new HashMap<>()), goal, new HashMap<>(put))) {
                all.add(g);
            }
        }
        return all;
    }

    boolean isMoreSpecial(int g, int h) {
        Type a = givens.get(g).result;
        Type b = givens.get(h).result;
        return isCase(a, b) && !isCase(b, a);
    }

    List<Integer> best(List<Integer> among) {
        List<Integer> all = new ArrayList<>();
        for (int g : among) {
            boolean isBest = true;
            for (int h : among) {
                isBest &= !isMoreSpecial(h, g);
            }
            if (isBest) {
                all.add(g);
            }
        }
        return all;
    }

    private Held seek(Type goal, Map<Integer, Type> put, List<Under> under) {
        int level = 0;
        for (int scope = start; scope != -1; scope = around.get(scope)) {
            List<Integer> left = suited(goal, put, scope);
            int atFirst = left.size();
            int failed = 0;
            while (!left.isEmpty()) {
                List<Integer> best = best(left);
                List<Integer> winners = new ArrayList<>();
                Held held = null;
                for (int g : best) {
                    Held one = isCut(g, goal, put, under) ? null : tryGiven(g, goal, put, under);
                    if (one == null) {
                        failed++;
                        continue;
                    }
                    winners.add(g);
                    held = one;
                }
                if (winners.size() > 1) {
                    first = winners.get(0);
                    second = winners.get(1);
                    clash = write(goal, put);
                    throw new End(2);
                }
                if (winners.size() == 1) {
                    held.tree.level = level;
                    held.tree.candidates = atFirst;
                    held.tree.failed = failed;
                    return held;
                }
                left.removeAll(best);
            }
            level++;
        }
        return null;
    }

    private boolean isCut(int g, Type goal, Map<Integer, Type> put, List<Under> under) {
        for (Under u : under) {
            if (u.given == g && size(u.goal, put) <= size(goal, put) && cover(u.goal, put).equals(cover(goal, put))) {
                cut++;
                return true;
            }
        }
        return false;
    }

    private Held tryGiven(int g, Type goal, Map<Integer, Type> put, List<Under> under) {
        tried++;
        Map<Integer, Integer> names = new HashMap<>();
        Map<Integer, Type> now = new HashMap<>(put);
        if (!unify(renamed(givens.get(g).result, names), goal, now)) {
            throw new IllegalStateException("a CANDIDATE is UNIFIED");
        }
        List<Under> then = new ArrayList<>(under);
        then.add(new Under(g, goal));
        Tree tree = new Tree();
        tree.given = g;
        tree.goal = goal;
        for (Type need : givens.get(g).needs) {
            Held below = ask(renamed(need, names), now, then);
            if (below == null) {
                return null;
            }
            now = below.put;
            tree.below.add(below.tree);
        }
        if (tree.count() > 200) {
            throw new End(6);
        }
        return new Held(tree, now);
    }

    // ---- values

    boolean isAtHand(int g, int scope) {
        int home = givens.get(g).scope;
        boolean isAround = false;
        for (int s = scope; s != -1; s = around.get(s)) {
            isAround |= s == home;
        }
        return isAround && !outs.contains(g) && !shuts.contains(home);
    }

    Set<Integer> needVarsBeyond(int g) {
        Set<Integer> all = new TreeSet<>();
        for (Type need : givens.get(g).needs) {
            all.addAll(vars(need, Map.of()));
        }
        all.removeAll(vars(givens.get(g).result, Map.of()));
        return all;
    }

    static Type filled(Type t, Map<Integer, Type> put) {
        if (t.isVar()) {
            return put.get(t.var);
        }
        List<Type> parts = new ArrayList<>();
        for (Type p : t.parts) {
            parts.add(filled(p, put));
        }
        return new Type(t.letter, -1, parts);
    }

    long values(Type goal, int scope, int deep) {
        long sum = 0;
        for (int g = 0; g < givens.size(); g++) {
            Map<Integer, Type> put = new HashMap<>();
            if (!isAtHand(g, scope) || !becomes(givens.get(g).result, goal, put)) {
                continue;
            }
            long product = givens.get(g).needs.isEmpty() || deep > 0 ? 1 : 0;
            for (Type need : givens.get(g).needs) {
                product *= product == 0 ? 0 : values(filled(need, put), scope, deep - 1);
                product = Math.min(product, 1000000);
            }
            sum += product;
        }
        return Math.min(sum, 1000000);
    }
}
