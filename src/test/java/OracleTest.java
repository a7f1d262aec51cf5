import java.util.ArrayList;
import java.util.List;
import java.util.Map;
import java.util.Random;
import java.util.Set;

/** Random texts and goals (the seeds are fixed): the program and the Oracle answer alike. */
public final class OracleTest {
    private static final int[] ENDS = new int[7];
    private static int metInAll;
    private static int cutInAll;

    private final Random random;
    private final GivenSearch x = new GivenSearch();
    private final Oracle.Type[] types = new Oracle.Type[4];
    private Oracle o;
    private String log = "";

    private OracleTest(long seed) {
        random = new Random(seed);
        for (int i = 0; i < 4; i++) {
            types[i] = new Oracle.Type('A', -1, List.of());
        }
    }

    public static void main(String[] args) throws Exception {
        int runs = args.length > 0 ? Integer.parseInt(args[0]) : 4000;
        int from = args.length > 1 ? Integer.parseInt(args[1]) : 0;
        for (int seed = from; seed < from + runs; seed++) {
            new OracleTest(seed).run();
        }
        StringBuilder ends = new StringBuilder();
        for (int e = 0; e < 7; e++) {
            ends.append(' ').append(ENDS[e]);
            Due.due("askings that end with " + e + ", whether enough", ENDS[e] >= 5, true);
        }
        Due.due("remembered ones met, whether enough", metInAll >= 20, true);
        Due.due("ways cut, whether enough", cutInAll >= 20, true);
        System.out.println("askings by their ends:" + ends + ", met " + metInAll + ", cut " + cutInAll);
        Due.finish("OracleTest");
    }

    private int upTo(int n) {
        return random.nextInt(n);
    }

    private boolean oneOf(int n) {
        return random.nextInt(n) == 0;
    }

    // ---- texts

    private String inner(int room, String leaves) {
        int kind = upTo(10);
        if (room < 2 || kind < 4) {
            return "" + leaves.charAt(upTo(leaves.length()));
        }
        if (room < 3 || kind < 8) {
            return "L(" + inner(room - 1, leaves) + ")";
        }
        int left = 1 + upTo(room - 2);
        return "P(" + inner(left, leaves) + "," + inner(room - 1 - left, leaves) + ")";
    }

    private String pred(int most, String leaves, String heads) {
        if (oneOf(25)) {
            return inner(most, leaves);
        }
        return heads.charAt(upTo(heads.length())) + "(" + inner(1 + upTo(most), leaves) + ")";
    }

    private String given(String heads, int style) {
        String leaves = style == 0 ? "abZ" : style == 1 ? "aabZY" : "abcZ";
        StringBuilder text = new StringBuilder(pred(style == 2 ? 5 : 3, leaves, heads));
        int needs = oneOf(3) ? 0 : 1 + upTo(style == 3 ? 4 : 2);
        for (int i = 0; i < needs; i++) {
            text.append(i == 0 ? "<-" : ",").append(pred(oneOf(4) ? 3 : 1, oneOf(3) ? leaves : "ab", heads));
        }
        return text.append(';').toString();
    }

    private void items(StringBuilder text, int depth, int[] left, String heads, int style) {
        text.append('{');
        int items = 1 + upTo(6);
        for (int i = 0; i < items; i++) {
            if (left[0] > 0 && depth < 5 && oneOf(4)) {
                left[0]--;
                items(text, depth + 1, left, heads, style);
            } else if (left[1] > 0) {
                left[1]--;
                text.append(given(heads, style));
            }
        }
        text.append('}');
    }

    /** One that doubles: where its small GOALS are remembered, the tree grows above 200 NODES. */
    private String doubling() {
        String needs = oneOf(2) ? "D(a),D(a)" : "D(a),D(a),D(a)";
        String more = oneOf(2) ? "E(a)<-D(a),E(a);" : "E(L(a))<-E(a),D(a);E(Z);";
        return "{D(Z);D(L(a))<-" + needs + ";" + more + "D(P(a,b))<-D(a),D(b);{" + given("DE", 0) + "}}";
    }

    /** One that grows the TYPES: GOALS above SIZE 100. */
    private String growing() {
        if (oneOf(2)) {
            return "{H(Z,Z);H(L(a),P(b,b))<-H(a,b);H(P(a,b),c)<-H(a,d),H(b,c);G(a)<-H(a,b);S(a)<-G(a);"
                + given("GS", 2) + "{" + given("GS", 2) + "}}";
        }
        return "{G(a)<-H(P(a,a),a);H(a,b)<-K(P(P(a,a),b));K(L(a))<-K(a);K(a)<-J(P(P(a,a),P(a,a)));"
            + "J(P(a,b))<-J(a);J(L(a))<-G(a);J(Z);" + given("GK", 1) + given("GK", 2) + "}";
    }

    private String text() {
        int kind = upTo(12);
        if (kind == 0) {
            return doubling();
        }
        if (kind == 1) {
            return growing();
        }
        StringBuilder text = new StringBuilder();
        items(text, 0, new int[] {upTo(8), 24}, oneOf(2) ? "ST" : "SABDG", upTo(4));
        return text.toString();
    }

    /** One byte is changed, lost or doubled. */
    private String spoilt(String text) {
        int at = upTo(text.length() + 1);
        String ahead = text.substring(0, at);
        String behind = text.substring(Math.min(text.length(), at + upTo(2)));
        return oneOf(4) ? ahead : ahead + "{}();,<-AbZ*".charAt(upTo(12)) + behind;
    }

    private String goal() {
        String leaves = oneOf(3) ? "abZ" : "ZZY";
        if (oneOf(12)) {
            return "H(" + inner(3, leaves) + "," + inner(3, leaves) + ")";
        }
        if (oneOf(6)) {
            String letter = oneOf(2) ? "Z" : "a";
            int most = 1 + upTo(9);
            String deep = "L(".repeat(most) + letter + ")".repeat(most);
            return oneOf(2) ? "H(" + deep + ",a)" : "DEGS".charAt(upTo(4)) + "(" + deep + ")";
        }
        String heads = o != null && !o.givens.isEmpty() && !oneOf(4) ? "" + headOf(upTo(o.givens.size())) : "STDEGK";
        return heads.charAt(upTo(heads.length())) + "(" + inner(1 + upTo(9), leaves) + ")";
    }

    private char headOf(int g) {
        Oracle.Type result = o.givens.get(g).result;
        return result.isVar() ? 'S' : result.letter();
    }

    // ---- one run

    private void due(String what, long got, long want) {
        if (got != want) {
            Due.due(log + what, got, want);
        } else {
            Due.due("", got, want);
        }
    }

    private void due(String what, String got, String want) {
        Due.due(got.equals(want) ? "" : log + what, got, want);
    }

    private void run() {
        tell();
        if (o == null) {
            return;
        }
        for (int i = 0; i < 12; i++) {
            int kind = upTo(8);
            if (kind == 0 && !o.givens.isEmpty()) {
                put(o.outs, upTo(o.givens.size()), true);
            } else if (kind == 1) {
                put(o.shuts, upTo(o.around.size()), false);
            } else if (kind == 2) {
                readTypes();
            } else {
                asking();
            }
            due("is(4)", x.is(4), o.known.size());
        }
    }

    private void put(Set<Integer> set, int k, boolean isOut) {
        boolean isTo = oneOf(2);
        boolean isDone = isTo ? set.add(k) : set.remove(k);
        log += (isOut ? "out(" : "shut(") + k + "," + isTo + "); ";
        due("put", (isOut ? x.out(k, isTo) : x.shut(k, isTo)) ? 1 : 0, isDone ? 1 : 0);
        if (isDone) {
            o.known.clear();
        }
        int bits = 0;
        for (int i : set) {
            bits |= 1 << i;
        }
        due("bits", x.is(isOut ? 2 : 3), bits);
    }

    private void tell() {
        String text = text();
        if (text.length() > 780) {
            return;
        }
        for (int i = 0; i < 3; i++) {
            tellFaulty(spoilt(text));
        }
        tellFaulty(text);
        if (o != null) {
            tellScopes();
        }
    }

    private void tellFaulty(String text) {
        log = text + " ";
        int fault = -1;
        try {
            o = Oracle.scopes(text);
        } catch (Oracle.Fault f) {
            fault = f.place;
        }
        due("scopes()", Due.scopes(x, text), fault < 0 ? o.givens.size() : -1);
        due("fault()", x.fault(), fault);
        due("the tape is empty", x.is(5), 0);
    }

    private static int bits(List<Integer> all) {
        int bits = 0;
        for (int i : all) {
            bits |= 1 << i;
        }
        return bits;
    }

    private void tellScopes() {
        int needs = 0;
        for (int g = 0; g < o.givens.size(); g++) {
            Oracle.Given given = o.givens.get(g);
            needs += given.needs.size();
            int sizes = 0;
            for (Oracle.Type need : given.needs) {
                sizes += Oracle.size(need, Map.of());
            }
            due("given 0", x.given(g, 0), given.scope);
            due("given 1", x.given(g, 1), given.needs.size());
            int beyond = o.needVarsBeyond(g).size();
            due("given 2", x.given(g, 2), Oracle.vars(given.result, Map.of()).size() + beyond);
            due("given 3", x.given(g, 3), Oracle.size(given.result, Map.of()));
            due("given 4", x.given(g, 4), sizes);
            due("given 5", x.given(g, 5), beyond);
            for (int h = 0; h < o.givens.size(); h++) {
                due("special " + g + " " + h, x.special(g, h), special(g, h));
            }
        }
        due("is(0)", x.is(0), o.around.size());
        due("is(6)", x.is(6), needs);
        clashes();
        for (int k = 0; k < o.around.size(); k++) {
            tellScope(k);
        }
    }

    private void clashes() {
        int clashes = 0;
        for (int g = 0; g < o.givens.size(); g++) {
            for (int h = 0; h < g; h++) {
                boolean isPair = o.givens.get(g).scope == o.givens.get(h).scope && !o.outs.contains(g) && !o.outs.contains(h);
                clashes += isPair && special(g, h) > 2 ? 1 : 0;
            }
        }
        due("clashes", x.clashes(), clashes);
    }

    private void tellScope(int k) {
        int own = 0;
        int right = 0;
        for (Oracle.Given given : o.givens) {
            own += given.scope == k ? 1 : 0;
        }
        for (int outer : o.around) {
            right += outer == k ? 1 : 0;
        }
        due("scope 0", x.scope(k, 0), o.around.get(k));
        due("scope 1", x.scope(k, 1), own);
        due("scope 2", x.scope(k, 2), levels(k) - 1);
        due("scope 3", x.scope(k, 3), right);
    }

    private int levels(int k) {
        int n = 0;
        for (int s = k; s != -1; s = o.around.get(s)) {
            n++;
        }
        return n;
    }

    private static Oracle.Type other(Oracle.Type t) {
        if (t.isVar()) {
            return new Oracle.Type(t.letter(), t.var() + 100, List.of());
        }
        List<Oracle.Type> parts = new ArrayList<>();
        for (Oracle.Type p : t.parts()) {
            parts.add(other(p));
        }
        return new Oracle.Type(t.letter(), -1, parts);
    }

    private int special(int g, int h) {
        Oracle.Type a = o.givens.get(g).result;
        Oracle.Type b = o.givens.get(h).result;
        boolean first = Oracle.isCase(a, b);
        boolean second = Oracle.isCase(b, a);
        if (first && second) {
            return 3;
        }
        if (first || second) {
            return first ? 1 : 2;
        }
        return Oracle.unify(a, other(b), new java.util.HashMap<>()) ? 4 : 0;
    }

    private void readTypes() {
        int i = upTo(4);
        String text = oneOf(3) ? goal() : inner(12, oneOf(2) ? "ab" : "Z") ;
        text = oneOf(4) ? spoilt(text) : text;
        int fault = -1;
        try {
            types[i] = Oracle.type(text);
        } catch (Oracle.Fault f) {
            fault = f.place;
        }
        log += "type " + i + " " + text + "; ";
        due("type", Due.type(x, i, text), fault < 0 ? Oracle.size(types[i], Map.of()) : -1);
        due("type's fault", x.fault(), fault);
        for (int j = 0; j < 4; j++) {
            relations(i, j);
            relations(j, i);
        }
        int k = upTo(o.around.size());
        Oracle.Type t = types[i];
        candidates(i, t, k);
        boolean isClosed = Oracle.vars(t, Map.of()).isEmpty();
        boolean hasBeyond = false;
        for (int g = 0; g < o.givens.size(); g++) {
            hasBeyond |= o.isAtHand(g, k) && !o.needVarsBeyond(g).isEmpty();
        }
        for (int d = -1; d < 5; d++) {
            boolean isWell = isClosed && d >= 0 && d <= 3;
            due("values " + d, x.values(i, k, d), !isWell ? -1 : hasBeyond ? -2 : o.values(t, k, d));
        }
    }

    private void candidates(int i, Oracle.Type t, int k) {
        int firstLevel = -1;
        int firstBest = 0;
        List<Integer> all = new ArrayList<>();
        int level = 0;
        for (int s = k; s != -1; s = o.around.get(s)) {
            List<Integer> here = o.suited(other(t), Map.of(), s);
            if (!here.isEmpty() && firstLevel == -1) {
                firstLevel = level;
                firstBest = bits(o.best(here));
            }
            all.addAll(here);
            level++;
        }
        due("candidates 0", x.candidates(i, k, 0), levels(k));
        due("candidates 1", x.candidates(i, k, 1), firstLevel);
        due("candidates 2", x.candidates(i, k, 2), bits(all));
        due("candidates 3", x.candidates(i, k, 3), firstBest);
    }

    private void relations(int i, int j) {
        Map<Integer, Oracle.Type> put = new java.util.HashMap<>();
        boolean isJoined = Oracle.unify(types[i], types[j], put);
        int size = isJoined ? Oracle.size(types[i], put) : 101;
        due("relation 0", x.relation(i, j, 0), isJoined ? 1 : 0);
        due("relation 1", x.relation(i, j, 1), Oracle.isCase(types[i], types[j]) ? 1 : 0);
        boolean isNoLess = Oracle.size(types[i], Map.of()) >= Oracle.size(types[j], Map.of());
        boolean isGrown = isNoLess && Oracle.cover(types[i], Map.of()).equals(Oracle.cover(types[j], Map.of()));
        due("relation 2", x.relation(i, j, 2), isGrown ? 1 : 0);
        due("relation 3", x.relation(i, j, 3), size > 100 ? -1 : size);
        due("unified", Due.written(x, x.unified(i, j)), size > 100 ? "" : Oracle.write(types[i], put));
    }

    private void asking() {
        String text = goal();
        Oracle.Type goal;
        try {
            goal = Oracle.type(text);
        } catch (Oracle.Fault f) {
            return;
        }
        int k = upTo(o.around.size());
        log += "ask " + text + " in " + k + "; ";
        int end = o.run(goal, k, true);
        ENDS[end]++;
        metInAll += o.met;
        cutInAll += o.cut;
        due("ask", Due.ask(x, k, text), end);
        due("asked 0", x.asked(0), end);
        due("asked 1", x.asked(1), o.goals);
        due("asked 2", x.asked(2), o.met);
        due("asked 3", x.asked(3), o.cut);
        due("asked 4", x.asked(4), o.tried);
        due("asked 7", x.asked(7), o.goalsDeep);
        due("both 0", x.both(0), end == 2 ? o.first : -1);
        due("both 1", x.both(1), end == 2 ? o.second : -1);
        tree();
        String answer = end == 2 ? o.clash : end == 0 ? o.found.frozen : "";
        due("writeAnswer", Due.answer(x), answer);
        if (oneOf(3)) {
            would(goal, k, end);
        }
    }

    private void tree() {
        int nodes = o.found == null ? 0 : o.found.count();
        due("asked 5", x.asked(5), nodes);
        due("asked 6", x.asked(6), o.found == null ? 0 : deep(o.found));
        Set<Integer> unlike = new java.util.TreeSet<>();
        int[] next = new int[1];
        StringBuilder text = new StringBuilder();
        if (o.found != null) {
            node(o.found, -1, -1, next, text, unlike);
        }
        due("asked 8", x.asked(8), unlike.size());
        due("node behind", x.node(nodes, 0), -2);
        due("writeTree", Due.tree(x), text.toString());
    }

    private static int deep(Oracle.Tree t) {
        int most = 0;
        for (Oracle.Tree b : t.below) {
            most = Math.max(most, 1 + deep(b));
        }
        return most;
    }

    private void node(Oracle.Tree t, int above, int need, int[] next, StringBuilder text, Set<Integer> unlike) {
        int k = next[0]++;
        unlike.add(t.given);
        int[] wanted = {t.given, above, need, t.level, t.candidates, t.failed, t.candidates - 1 - t.failed, t.frozenSize};
        for (int what = 0; what < 8; what++) {
            due("node " + k + " " + what, x.node(k, what), wanted[what]);
        }
        due("writeGoal " + k, Due.goal(x, k), t.frozen);
        text.append('g').append(t.given);
        for (int i = 0; i < t.below.size(); i++) {
            text.append(i == 0 ? '(' : ',');
            node(t.below.get(i), k, i, next, text, unlike);
        }
        text.append(t.below.isEmpty() ? "" : ")");
    }

    private void would(Oracle.Type goal, int k, int end) {
        int needed = 0;
        int mends = 0;
        for (int g = 0; g < o.givens.size(); g++) {
            boolean isOut = o.outs.contains(g);
            o.outs.add(g);
            int endThen = o.run(goal, k, false);
            due("without " + g, x.without(g), endThen);
            needed |= endThen == 0 ? 0 : 1 << g;
            o.outs.remove(g);
            if (isOut) {
                mends |= o.run(goal, k, false) == 0 ? 1 << g : 0;
                o.outs.add(g);
            }
        }
        due("needed", x.needed(), end == 0 ? needed : -1);
        due("mends", x.mends(), end == 0 ? -1 : mends);
        clashes();
    }
}
