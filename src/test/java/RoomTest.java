import java.lang.management.ManagementFactory;
import java.util.Random;

/** No call throws, whatever its arguments; what a run of 512 dear calls makes stays small; no call goes deep. */
public final class RoomTest {
    private static final int CALLS = 512;
    private static final long ROOM = 4L * 2_000_000;

    private RoomTest() {
    }

    public static void main(String[] args) throws Exception {
        anyArguments();
        dearCalls("remembering trees that are large", RoomTest::largeTrees);
        dearCalls("remembering and forgetting", RoomTest::manyForgotten);
        dearCalls("needed and mends", RoomTest::manyAskings);
        dearCalls("values", RoomTest::manyValues);
        smallStack();
        Due.finish("RoomTest");
    }

    // ---- any arguments

    private static int any(Random random) {
        switch (random.nextInt(8)) {
            case 0:
                return random.nextInt();
            case 1:
                return Integer.MIN_VALUE >> random.nextInt(32);
            case 2:
                return Integer.MAX_VALUE >> random.nextInt(32);
            case 3:
                return random.nextInt(300) - 50;
            default:
                return random.nextInt(10) - 1;
        }
    }

    private static int octets(Random random) {
        String likely = "{}();,<-AABSZabc{;";
        int word = 0;
        for (int i = 0; i < 4; i++) {
            word = word << 8 | (random.nextInt(40) == 0 ? random.nextInt(256) : likely.charAt(random.nextInt(likely.length())));
        }
        return word;
    }

    private static void anyArguments() {
        String[] texts = {
            "{S(Z);S(L(a))<-S(a);{S(Z);S(P(a,b))<-S(a),S(b);}}", "{A(a)<-A(L(a));A(Z);a<-A(b),B;B;}",
            "{D(Z);D(L(a))<-D(a),D(a);{H(Z,Z);H(L(a),P(b,b))<-H(a,b);}}", "{A;A;B<-A;{{{{{C<-B,A;}}}}}}", "{}",
            "{a<-L(a);L(a)<-b;P(a,b,c);}", "{a<-P(a,a);P(L(a),b)<-a,b;Z;}",
        };
        String[] goals = {"S(L(P(Z,Z)))", "A(q)", "D(L(L(L(L(L(L(L(Z))))))))", "H(L(L(L(L(L(L(L(Z))))))),b)", "a", "C", "P(a,Z)", "Z"};
        for (int seed = 0; seed < 1500; seed++) {
            Random random = new Random(seed);
            GivenSearch x = new GivenSearch();
            String done = "";
            try {
                for (int i = 0; i < CALLS; i++) {
                    int kind = random.nextInt(40);
                    if (kind < 3) {
                        Due.tape(x, kind == 0 ? texts[random.nextInt(texts.length)] : goals[random.nextInt(goals.length)]);
                    }
                    done = "seed " + seed + ", call " + i + " of kind " + kind;
                    call(x, kind, random);
                }
            } catch (RuntimeException | StackOverflowError thrown) {
                Due.due(done + " threw " + thrown, 1, 0);
            }
        }
        Due.due("any arguments", 0, 0);
    }

    private static void call(GivenSearch x, int kind, Random random) {
        int a = any(random);
        int b = any(random);
        int c = any(random);
        switch (kind) {
            case 0 -> x.scopes();
            case 1 -> x.ask(random.nextInt(3));
            case 2 -> x.type(a);
            case 3 -> x.feed(octets(random), octets(random), octets(random), octets(random), octets(random));
            case 4 -> x.end(a);
            case 5 -> x.scopes();
            case 6 -> x.fault();
            case 7 -> x.is(a);
            case 8 -> x.scope(a, b);
            case 9 -> x.given(a, b);
            case 10 -> x.out(a, c > 0);
            case 11 -> x.shut(a, c > 0);
            case 12 -> x.special(a, b);
            case 13 -> x.clashes();
            case 14 -> x.type(a);
            case 15 -> x.relation(a, b, c);
            case 16 -> x.unified(a, b);
            case 17 -> x.ask(a);
            case 18 -> x.asked(a);
            case 19 -> x.node(a, b);
            case 20 -> x.writeGoal(a);
            case 21 -> x.writeTree();
            case 22 -> x.writeAnswer();
            case 23 -> x.both(a);
            case 24 -> x.octet(a);
            case 25 -> x.without(a);
            case 26 -> x.needed();
            case 27 -> x.mends();
            case 28 -> x.candidates(a, b, c);
            case 29 -> x.values(a, b, c);
            default -> x.octet(b);
        }
    }

    // ---- what is made

    private interface Dear {
        void call(GivenSearch x, int i);
    }

    private static long made() {
        return ((com.sun.management.ThreadMXBean) ManagementFactory.getThreadMXBean()).getCurrentThreadAllocatedBytes();
    }

    private static void dearCalls(String what, Dear dear) {
        long ahead = made();
        GivenSearch x = new GivenSearch();
        for (int i = 0; i < CALLS; i++) {
            dear.call(x, i);
        }
        long bytes = made() - ahead;
        Due.due(what + " made " + bytes + " bytes: little enough", bytes < ROOM, true);
        long aheadOfNew = made();
        new GivenSearch();
        long bytesOfNew = made() - aheadOfNew;
        Due.due("a new object is small: " + bytesOfNew, bytesOfNew < 100_000, true);
        System.out.println(what + ": " + bytes + " bytes with the tests' own, a new object " + bytesOfNew);
    }

    /** The GOALS that are not CLOSED are large, and the closed ones above them are remembered with all of these. */
    private static void largeTrees(GivenSearch x, int i) {
        if (i == 0) {
            Due.scopes(x, "{T(a)<-U(a,b),U(a,c),U(a,d),U(a,e);U(a,b)<-V(a,c),V(a,d),V(a,e),V(a,f);"
                + "V(a,b)<-W(a,c),W(a,d),W(a,e),W(P(a,a),f);W(P(a,b),c);W(L(a),c);W(M(a),c);W(Z,c);}");
        }
        if (i % 60 == 59) {
            x.out(6, i % 120 == 59);
        }
        StringBuilder goal = new StringBuilder("Z");
        for (int bit = 1; bit < 1024; bit *= 2) {
            goal.insert(0, (i & bit) == 0 ? "L(" : "M(").append(')');
        }
        Due.due("a large tree", Due.ask(x, 0, "T(" + goal + ")"), 0);
        Due.due("a large tree", x.writeTree(), 85 * 2 + 21 * 5);
        Due.due("a large tree", x.writeGoal(i % 85) > 0, true);
    }

    /** What is remembered again, after much was forgotten, is as it was. */
    private static void manyForgotten(GivenSearch x, int i) {
        if (i == 0) {
            Due.scopes(x, "{T(a)<-U(a),U(a),U(a),U(a);U(a)<-V(a),V(a),V(a),V(a);V(a)<-W,W,W,W;W;N;}");
        }
        x.out(4, i % 2 == 0);
        Due.due("first", Due.ask(x, 0, "T(Z)"), 0);
        Due.due("met", Due.ask(x, 0, "T(Z)"), 0);
        Due.due("met", x.asked(1), 1);
        Due.due("its tree", x.writeTree(), 85 * 2 + 21 * 5);
        Due.due("its last GOAL", x.writeGoal(84), 1);
        Due.due("its last GOAL", x.octet(0), 'W');
    }

    private static void manyAskings(GivenSearch x, int i) {
        if (i == 0) {
            Due.scopes(x, "{" + "A(a)<-B(a),C;".repeat(10) + "B(a)<-A(L(a));C<-D;D<-E;E;{" + "A(a)<-B(L(a)),E;".repeat(9) + "E;}}");
            x.out(12, true);
            Due.ask(x, 1, "A(Z)");
        }
        Due.due("what would be, again and again", x.mends(), 0);
        Due.due("what would be, again and again", x.without(23), 3);
        Due.due("what would be, again and again", x.without(10), 1);
    }

    private static void manyValues(GivenSearch x, int i) {
        if (i == 0) {
            Due.scopes(x, "{A(Z);" + "A(a)<-A(a),A(a),B(P(a,a));".repeat(8) + "}");
            Due.type(x, 0, "A(Z)");
        }
        Due.due("values, again and again", x.values(0, 0, 3), 1);
        Due.due("clashes, again and again", x.clashes(), 28);
    }

    // ---- how deep

    /** A thread with little room for open calls: the deepest asking has place in it. */
    private static void smallStack() throws InterruptedException {
        int[] end = {-1};
        Thread thread = new Thread(null, () -> {
            GivenSearch x = Due.told("{A(a)<-A(L(a));A(a)<-B(a);B(a)<-A(M(a));B(a)<-C(a);C(a)<-A(P(a,b));}");
            end[0] = Due.ask(x, 0, "A(a)");
        }, "small", 200_000);
        thread.start();
        thread.join();
        Due.due("an asking in a small thread", end[0] >= 0, true);
    }
}
