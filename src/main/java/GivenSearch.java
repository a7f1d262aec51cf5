import java.util.Arrays;

/** Values that nobody writes, found by their types: the promises stand in ../shared/DOC.md. */
public final class GivenSearch {
    public static final int NONE = -1;

    private static final int NO_SUCH = -2;

    private static final int TAPE_MOST = 800;
    private static final int FED_AT_ONCE = 20;
    private static final int SCOPES_MOST = 8;
    private static final int SCOPES_AROUND_MOST = 5;
    private static final int GIVENS_MOST = 24;
    private static final int NEEDS_MOST = 4;
    private static final int TYPE_MOST = 12;
    private static final int PARTS_MOST = 3;
    private static final int LETTERS = 26;
    private static final int TYPES = 4;

    private static final int SIZE_MOST = 100;
    private static final int GOALS_MOST = 200;
    private static final int OTHERS_MOST = 20;
    private static final int NODES_MOST = 200;
    private static final int REMEMBERED_MOST = 40;
    private static final int VALUES_DEEP_MOST = 3;
    private static final int VALUES_MOST = 1000000;

    // A sign of a TYPE: a CON is its letter's number * 4 + how many parts it has, a VAR is FIRST_VAR + its number.
    private static final int FIRST_VAR = 4 * LETTERS;

    // How an asking ends.
    private static final int FOUND = 0;
    private static final int NOT_FOUND = 1;
    private static final int AMBIGUOUS = 2;
    private static final int TOO_MANY_GOALS = 3;
    private static final int TOO_DEEP = 4;
    private static final int TOO_LARGE = 5;
    private static final int TREE_TOO_LARGE = 6;

    // What asked() tells, by its number.
    private static final int ENDED = 0;
    private static final int GOALS = 1;
    private static final int MET = 2;
    private static final int CUT = 3;
    private static final int TRIED = 4;
    private static final int NODES = 5;
    private static final int TREE_DEEP = 6;
    private static final int GOALS_DEEP = 7;
    private static final int UNLIKE_GIVENS = 8;
    private static final int TOLD = 9;

    // The columns of a NODE: the first six are numbered as node() tells them.
    private static final int GIVEN = 0;
    private static final int ABOVE = 1;
    private static final int NEED = 2;
    private static final int LEVEL = 3;
    private static final int CANDIDATES = 4;
    private static final int FAILED = 5;
    // In a plan: the GOAL's node among the terms, which remembered one it is.
    private static final int GOAL = 6;
    private static final int REMEMBERED = 7;
    // In a forest: where the GOAL's signs begin, its SIZE.
    private static final int SIGNS = 6;
    private static final int SIZE = 7;
    private static final int COLUMNS = 8;

    private final Tape tape = new Tape();
    private final Flat[] types = new Flat[TYPES];
    private final Flat read = new Flat(TYPE_MOST);
    private final Flat flat = new Flat(SIZE_MOST);
    private final Written written = new Written();
    private Text text = new Text();
    private Text spare = new Text();
    private final Search search = new Search(text);
    private int faultAt = NONE;
    private int outs;
    private int shuts;

    // The latest asking.
    private final int[] told = new int[TOLD];
    private final Flat goal = new Flat(TYPE_MOST);
    private final Flat clash = new Flat(SIZE_MOST);
    private final Forest tree = new Forest();
    private int askedIn;
    private int firstOfBoth = NONE;
    private int secondOfBoth = NONE;

    public GivenSearch() {
        for (int i = 0; i < TYPES; i++) {
            types[i] = new Flat(TYPE_MOST);
            types[i].add(0);
        }
        told[ENDED] = NONE;
    }

    // ---- the tape, THE TEXT

    public int feed(int a, int b, int c, int d, int e) {
        if (tape.length + FED_AT_ONCE > TAPE_MOST) {
            return NONE;
        }
        tape.addFour(a);
        tape.addFour(b);
        tape.addFour(c);
        tape.addFour(d);
        tape.addFour(e);
        return tape.length;
    }

    public int end(int n) {
        if (n < 0 || n > tape.length) {
            return NONE;
        }
        tape.length = n;
        return n;
    }

    public int scopes() {
        boolean isGood = tape.readText(spare);
        faultAt = isGood ? NONE : tape.at;
        tape.length = 0;
        if (!isGood) {
            return NONE;
        }
        Text former = text;
        text = spare;
        spare = former;
        text.settle();
        search.tell(text);
        outs = 0;
        shuts = 0;
        told[ENDED] = NONE;
        tree.clear();
        return text.givenCount;
    }

    public int fault() {
        return faultAt;
    }

    public int is(int what) {
        switch (what) {
            case 0:
                return text.scopeCount;
            case 1:
                return text.givenCount;
            case 2:
                return outs;
            case 3:
                return shuts;
            case 4:
                return search.memory.count;
            case 5:
                return tape.length;
            case 6:
                return text.needsInAll();
            default:
                return NONE;
        }
    }

    public int scope(int k, int what) {
        if (!text.hasScope(k)) {
            return NO_SUCH;
        }
        switch (what) {
            case 0:
                return text.around[k];
            case 1:
                return Integer.bitCount(text.own[k]);
            case 2:
                return text.lies[k];
            case 3:
                return text.scopesRightIn(k);
            default:
                return NO_SUCH;
        }
    }

    public int given(int k, int what) {
        if (!text.hasGiven(k)) {
            return NONE;
        }
        int resultVars = text.part(k, 0).varLetters();
        int needVars = text.needVars(k);
        switch (what) {
            case 0:
                return text.home[k];
            case 1:
                return text.needs[k];
            case 2:
                return Integer.bitCount(resultVars | needVars);
            case 3:
                return text.part(k, 0).size;
            case 4:
                return text.needSizes(k);
            case 5:
                return Integer.bitCount(needVars & ~resultVars);
            default:
                return NONE;
        }
    }

    public boolean out(int k, boolean isOut) {
        if (!text.hasGiven(k) || isIn(outs, k) == isOut) {
            return false;
        }
        outs ^= 1 << k;
        search.memory.forget();
        return true;
    }

    public boolean shut(int k, boolean isShut) {
        if (!text.hasScope(k) || isIn(shuts, k) == isShut) {
            return false;
        }
        shuts ^= 1 << k;
        search.memory.forget();
        return true;
    }

    // ---- what two GIVENS, two TYPES have to do with each other

    public int special(int i, int j) {
        if (!text.hasGiven(i) || !text.hasGiven(j)) {
            return NONE;
        }
        boolean first = text.isCase(i, j);
        boolean second = text.isCase(j, i);
        if (first != second) {
            return first ? 1 : 2;
        }
        if (first) {
            return 3;
        }
        return search.canMeet(text.part(i, 0), text.part(j, 0)) ? 4 : 0;
    }

    public int clashes() {
        int pairs = 0;
        for (int i = 0; i < text.givenCount; i++) {
            for (int j = i + 1; j < text.givenCount; j++) {
                boolean isPair = text.home[i] == text.home[j] && !isIn(outs, i) && !isIn(outs, j);
                if (isPair && special(i, j) >= 3) {
                    pairs++;
                }
            }
        }
        return pairs;
    }

    public int type(int i) {
        boolean isThere = hasType(i);
        boolean isGood = isThere && tape.readWhole(read);
        faultAt = isThere && !isGood ? tape.at : NONE;
        tape.length = 0;
        if (!isGood) {
            return NONE;
        }
        types[i].take(read);
        return read.size;
    }

    public int relation(int i, int j, int what) {
        if (!hasType(i) || !hasType(j)) {
            return NONE;
        }
        switch (what) {
            case 0:
                return search.join(types[i], types[j], flat) ? 1 : 0;
            case 1:
                return text.match.becomes(types[j], types[i]) ? 1 : 0;
            case 2:
                return types[i].size >= types[j].size && types[i].cover() == types[j].cover() ? 1 : 0;
            case 3:
                return search.join(types[i], types[j], flat) && flat.size <= SIZE_MOST ? flat.size : NONE;
            default:
                return NONE;
        }
    }

    public int unified(int i, int j) {
        if (!hasType(i) || !hasType(j) || !search.join(types[i], types[j], flat)) {
            return NONE;
        }
        return writeFlat();
    }

    // ---- asking

    public int ask(int k) {
        boolean isThere = text.hasScope(k);
        boolean isGood = isThere && tape.readWhole(read);
        faultAt = isThere && !isGood ? tape.at : NONE;
        tape.length = 0;
        if (!isGood) {
            return NO_SUCH;
        }
        goal.take(read);
        askedIn = k;
        search.run(goal, k, outs, shuts, true);
        keepAsking();
        return told[ENDED];
    }

    public int asked(int what) {
        if (told[ENDED] == NONE || what < 0 || what >= TOLD) {
            return NONE;
        }
        return told[what];
    }

    public int node(int k, int what) {
        if (!tree.nodes.has(k)) {
            return NO_SUCH;
        }
        if (what >= GIVEN && what <= FAILED) {
            return tree.nodes.get(k, what);
        }
        if (what == 6) {
            return tree.nodes.get(k, CANDIDATES) - tree.nodes.get(k, FAILED) - 1;
        }
        return what == 7 ? tree.nodes.get(k, SIZE) : NO_SUCH;
    }

    public int writeGoal(int k) {
        if (!tree.nodes.has(k)) {
            return NONE;
        }
        tree.goalInto(k, flat);
        return writeFlat();
    }

    public int writeTree() {
        if (tree.nodes.top == 0) {
            return NONE;
        }
        written.clear();
        written.addTree(tree);
        return written.length;
    }

    public int writeAnswer() {
        if (told[ENDED] == AMBIGUOUS) {
            flat.take(clash);
            return writeFlat();
        }
        return writeGoal(0);
    }

    public int both(int what) {
        if (told[ENDED] != AMBIGUOUS || what < 0 || what > 1) {
            return NONE;
        }
        return what == 0 ? firstOfBoth : secondOfBoth;
    }

    public int octet(int k) {
        return written.at(k);
    }

    // ---- what would be

    public int without(int k) {
        if (told[ENDED] == NONE || !text.hasGiven(k)) {
            return NONE;
        }
        return search.run(goal, askedIn, outs | 1 << k, shuts, false);
    }

    public int needed() {
        if (told[ENDED] != FOUND) {
            return NONE;
        }
        int bits = 0;
        for (int k = 0; k < text.givenCount; k++) {
            if (search.run(goal, askedIn, outs | 1 << k, shuts, false) != FOUND) {
                bits |= 1 << k;
            }
        }
        return bits;
    }

    public int mends() {
        if (told[ENDED] == NONE || told[ENDED] == FOUND) {
            return NONE;
        }
        int bits = 0;
        for (int k = 0; k < text.givenCount; k++) {
            if (isIn(outs, k) && search.run(goal, askedIn, outs & ~(1 << k), shuts, false) == FOUND) {
                bits |= 1 << k;
            }
        }
        return bits;
    }

    public int candidates(int i, int k, int what) {
        if (!hasType(i) || !text.hasScope(k) || what < 0 || what > 3) {
            return NONE;
        }
        if (what == 0) {
            return text.lies[k] + 1;
        }
        search.begin(k, outs, shuts);
        int wanted = search.terms.build(types[i], true);
        int firstLevel = NONE;
        int firstBest = 0;
        int all = 0;
        int around = k;
        for (int level = 0; level <= SCOPES_AROUND_MOST && around != NONE; level++) {
            int here = search.suited(wanted, around);
            if (here != 0 && firstLevel == NONE) {
                firstLevel = level;
                firstBest = text.bestOf(here);
            }
            all |= here;
            around = text.aroundOf(around);
        }
        if (what == 1) {
            return firstLevel;
        }
        return what == 2 ? all : firstBest;
    }

    public int values(int i, int k, int d) {
        if (!hasType(i) || !text.hasScope(k) || d < 0 || d > VALUES_DEEP_MOST || !types[i].isClosed()) {
            return NONE;
        }
        search.begin(k, outs, shuts);
        int givens = search.usableFrom(k);
        for (int g = 0; g < text.givenCount; g++) {
            if (isIn(givens, g) && (text.needVars(g) & ~text.part(g, 0).varLetters()) != 0) {
                return NO_SUCH;
            }
        }
        return search.countValues(search.terms.build(types[i], true), givens, d);
    }

    // ---- helpers

    private static boolean isIn(int bits, int k) {
        return (bits >> k & 1) == 1;
    }

    private boolean hasType(int i) {
        return i >= 0 && i < types.length;
    }

    private int writeFlat() {
        if (flat.size > SIZE_MOST) {
            return NONE;
        }
        written.clear();
        written.addFlat(flat);
        return written.length;
    }

    /** What would be is asked with the same rows: so what the latest asking tells is held apart from them. */
    private void keepAsking() {
        System.arraycopy(search.tally, 0, told, 0, TOLD);
        tree.clear();
        if (told[ENDED] == FOUND) {
            search.plant(0, tree);
        }
        told[NODES] = tree.nodes.top;
        told[TREE_DEEP] = tree.deepest();
        told[UNLIKE_GIVENS] = tree.unlikeGivens();
        firstOfBoth = search.first;
        secondOfBoth = search.second;
        clash.take(search.clash);
    }

    /** A TYPE as a row of signs, each CON ahead of its parts. A size above the row's length says: too large. */
    private static final class Flat {
        final int[] sign;
        int size;

        Flat(int most) {
            sign = new int[Math.max(most, 1)];
        }

        void clear() {
            size = 0;
        }

        void add(int s) {
            if (size < sign.length) {
                sign[size] = s;
            }
            size++;
        }

        int at(int i) {
            return i >= 0 && i < size && i < sign.length ? sign[i] : NONE;
        }

        /** One part more for the CON at i. */
        void addPart(int i) {
            if (i >= 0 && i < length()) {
                sign[i]++;
            }
        }

        int partsAt(int i) {
            return partsOf(at(i));
        }

        static int partsOf(int s) {
            return s < 0 || s >= FIRST_VAR ? 0 : s & 3;
        }

        private int length() {
            return Math.min(size, sign.length);
        }

        void take(Flat other) {
            size = 0;
            for (int i = 0; i < other.length(); i++) {
                add(other.sign[i]);
            }
            size = other.size;
        }

        boolean isSame(Flat other) {
            if (size != other.size) {
                return false;
            }
            for (int i = 0; i < size; i++) {
                if (at(i) != other.at(i)) {
                    return false;
                }
            }
            return true;
        }

        boolean isClosed() {
            for (int i = 0; i < length(); i++) {
                if (sign[i] >= FIRST_VAR) {
                    return false;
                }
            }
            return size <= sign.length;
        }

        int cover() {
            int bits = 0;
            for (int i = 0; i < length(); i++) {
                if (sign[i] < FIRST_VAR) {
                    bits |= 1 << (sign[i] >> 2);
                }
            }
            return bits;
        }

        /** For a TYPE as it was read, whose VARS have their letters' numbers. */
        int varLetters() {
            int bits = 0;
            for (int i = 0; i < length(); i++) {
                if (sign[i] >= FIRST_VAR) {
                    bits |= 1 << (sign[i] - FIRST_VAR);
                }
            }
            return bits;
        }

        /** Where the TYPE ends that begins at i. */
        int behind(int i) {
            int wanted = 1;
            int at = i;
            while (at < length() && wanted > 0) {
                wanted += partsAt(at) - 1;
                at++;
            }
            return at;
        }
    }

    /** Whether one TYPE, as it was read, becomes another by putting TYPES for its VARS. */
    private static final class Match {
        private final int[] putAt = new int[LETTERS];

        boolean becomes(Flat general, Flat other) {
            Arrays.fill(putAt, NONE);
            int at = 0;
            for (int i = 0; i < general.size; i++) {
                int s = general.at(i);
                if (s >= FIRST_VAR) {
                    if (!put(s - FIRST_VAR, other, at)) {
                        return false;
                    }
                    at = other.behind(at);
                } else if (s == other.at(at)) {
                    at++;
                } else {
                    return false;
                }
            }
            return true;
        }

        private boolean put(int v, Flat other, int at) {
            if (v < 0 || v >= LETTERS) {
                return false;
            }
            if (putAt[v] == NONE) {
                putAt[v] = at;
                return true;
            }
            int former = putAt[v];
            int length = other.behind(at) - at;
            for (int i = 0; i < length; i++) {
                if (other.at(former + i) != other.at(at + i)) {
                    return false;
                }
            }
            return true;
        }
    }

    /** THE TEXT: the SCOPES and the GIVENS. */
    private static final class Text {
        int scopeCount;
        int givenCount;
        final int[] around = new int[SCOPES_MOST];
        final int[] lies = new int[SCOPES_MOST];
        final int[] own = new int[SCOPES_MOST];
        final int[] home = new int[GIVENS_MOST];
        final int[] needs = new int[GIVENS_MOST];
        final Match match = new Match();
        private final Flat[] parts = new Flat[GIVENS_MOST * (1 + NEEDS_MOST)];
        private final int[] cases = new int[GIVENS_MOST];

        Text() {
            for (int i = 0; i < parts.length; i++) {
                parts[i] = new Flat(TYPE_MOST);
            }
        }

        void clear() {
            scopeCount = 0;
            givenCount = 0;
        }

        boolean hasScope(int k) {
            return k >= 0 && k < scopeCount && k < SCOPES_MOST;
        }

        boolean hasGiven(int k) {
            return k >= 0 && k < givenCount && k < GIVENS_MOST;
        }

        boolean mayOpenIn(int k) {
            return scopeCount < SCOPES_MOST && (!hasScope(k) || lies[k] < SCOPES_AROUND_MOST);
        }

        int open(int k) {
            int made = scopeCount;
            if (made < SCOPES_MOST) {
                around[made] = k;
                lies[made] = hasScope(k) ? lies[k] + 1 : 0;
                own[made] = 0;
                scopeCount++;
            }
            return made;
        }

        int aroundOf(int k) {
            return hasScope(k) ? around[k] : NONE;
        }

        void addGiven(int k, int needCount) {
            if (givenCount < GIVENS_MOST && hasScope(k)) {
                home[givenCount] = k;
                needs[givenCount] = needCount;
                own[k] |= 1 << givenCount;
                givenCount++;
            }
        }

        /** Part 0 of GIVEN g is its RESULT, the others its NEEDS. */
        Flat part(int g, int i) {
            int at = g * (1 + NEEDS_MOST) + i;
            return parts[at >= 0 && at < parts.length ? at : 0];
        }

        int needsOf(int g) {
            return hasGiven(g) ? needs[g] : 0;
        }

        int needsInAll() {
            int sum = 0;
            for (int g = 0; g < givenCount; g++) {
                sum += needs[g];
            }
            return sum;
        }

        int needSizes(int g) {
            int sum = 0;
            for (int i = 1; i <= needsOf(g); i++) {
                sum += part(g, i).size;
            }
            return sum;
        }

        int needVars(int g) {
            int bits = 0;
            for (int i = 1; i <= needsOf(g); i++) {
                bits |= part(g, i).varLetters();
            }
            return bits;
        }

        int scopesRightIn(int k) {
            int count = 0;
            for (int i = 0; i < scopeCount; i++) {
                if (around[i] == k) {
                    count++;
                }
            }
            return count;
        }

        /** Which RESULTS are cases of which is asked for each GOAL: so it is found out once for THE TEXT. */
        void settle() {
            for (int g = 0; g < givenCount; g++) {
                cases[g] = 0;
                for (int c = 0; c < givenCount; c++) {
                    if (match.becomes(part(g, 0), part(c, 0))) {
                        cases[g] |= 1 << c;
                    }
                }
            }
        }

        /** Whether c's RESULT is one that g's becomes. */
        boolean isCase(int c, int g) {
            return hasGiven(g) && isIn(cases[g], c);
        }

        private boolean hasMoreSpecial(int g, int among) {
            for (int c = 0; c < givenCount; c++) {
                if (isIn(among, c) && isCase(c, g) && !isCase(g, c)) {
                    return true;
                }
            }
            return false;
        }

        int bestOf(int among) {
            int bits = 0;
            for (int g = 0; g < givenCount; g++) {
                if (isIn(among, g) && !hasMoreSpecial(g, among)) {
                    bits |= 1 << g;
                }
            }
            return bits;
        }
    }

    /** The bytes that are fed, and how they are read: where reading fails, at is the FAULT. */
    private static final class Tape {
        int length;
        int at;
        private final int[] octets = new int[TAPE_MOST];
        private final int[] openAt = new int[TYPE_MOST];

        void addFour(int word) {
            for (int shift = 24; shift >= 0; shift -= 8) {
                if (length < TAPE_MOST) {
                    octets[length] = word >>> shift & 255;
                    length++;
                }
            }
        }

        private int next() {
            return at >= 0 && at < length && at < TAPE_MOST ? octets[at] : NONE;
        }

        private boolean isNext(char c) {
            return next() == c;
        }

        private boolean passed(char c) {
            if (!isNext(c)) {
                return false;
            }
            at++;
            return true;
        }

        private boolean isConNext() {
            return next() >= 'A' && next() <= 'Z';
        }

        private boolean isVarNext() {
            return next() >= 'a' && next() <= 'z';
        }

        /** Whether the tape is one TYPE. */
        boolean readWhole(Flat into) {
            at = 0;
            return readOne(into) && at == length;
        }

        private boolean readOne(Flat into) {
            into.clear();
            int open = 0;
            for (int i = 0; i < TYPE_MOST; i++) {
                if (!isConNext() && !isVarNext()) {
                    return false;
                }
                into.add(isConNext() ? (next() - 'A') * 4 : FIRST_VAR + next() - 'a');
                boolean isCon = isConNext();
                at++;
                if (isCon && isNext('(') && open < TYPE_MOST) {
                    openAt[open] = into.size - 1;
                    open++;
                } else {
                    open = close(open);
                }
                if (open == 0) {
                    return true;
                }
                if (!nextPart(into, openAt[open - 1])) {
                    return false;
                }
            }
            return false;
        }

        private int close(int open) {
            int left = open;
            while (left > 0 && passed(')')) {
                left--;
            }
            return left;
        }

        /** Passes the sign ahead of a part: ( for the first, a comma for another. */
        private boolean nextPart(Flat into, int con) {
            int parts = into.partsAt(con);
            if (parts == PARTS_MOST || !passed(parts == 0 ? '(' : ',')) {
                return false;
            }
            into.addPart(con);
            return true;
        }

        boolean readText(Text into) {
            into.clear();
            at = 0;
            int scope = NONE;
            for (int i = 0; i < TAPE_MOST; i++) {
                if (isNext('{')) {
                    if (!into.mayOpenIn(scope)) {
                        return false;
                    }
                    scope = into.open(scope);
                    at++;
                } else if (scope == NONE) {
                    return false;
                } else if (passed('}')) {
                    scope = into.aroundOf(scope);
                    if (scope == NONE) {
                        return at == length;
                    }
                } else if (!readGiven(into, scope)) {
                    return false;
                }
            }
            return false;
        }

        private boolean readGiven(Text into, int scope) {
            int g = into.givenCount;
            if (g == GIVENS_MOST || !readOne(into.part(g, 0))) {
                return false;
            }
            int needs = 0;
            if (passed('<')) {
                if (!passed('-')) {
                    return false;
                }
                do {
                    needs++;
                    if (!readOne(into.part(g, needs))) {
                        return false;
                    }
                } while (needs < NEEDS_MOST && passed(','));
            }
            if (!passed(';')) {
                return false;
            }
            into.addGiven(scope, needs);
            return true;
        }
    }

    /** TYPES while it is searched: nodes that are CONS or UNKNOWNS; what is put for an UNKNOWN goes again by back(). */
    private static final class Terms {
        private static final int ROOM_MOST = 1 << 16;
        private static final int STEPS_MOST = 1 << 24;
        private static final int OPEN_MOST = 1 << 11;

        int top;
        int trailTop;
        int savedTop;
        private int[] sign = new int[256];
        private int[] listed = new int[256];
        private int[] link = new int[256 * PARTS_MOST];
        private int[] trail = new int[256];
        private int[] saved = new int[256];
        private final int[] open = new int[OPEN_MOST];
        private final int[] pairs = new int[OPEN_MOST];
        private final int[] unknownOf = new int[LETTERS];
        private final int[] names = new int[SIZE_MOST];
        private int openTop;
        private int pairTop;
        private int nameCount;

        void clear() {
            top = 0;
            trailTop = 0;
            savedTop = 0;
        }

        // ---- nodes

        private int signOf(int n) {
            return n >= 0 && n < top && n < sign.length ? sign[n] : NONE;
        }

        private boolean isUnknown(int n) {
            return signOf(n) == FIRST_VAR;
        }

        /** Part 0 of an UNKNOWN is what is put for it. */
        private int partOf(int n, int i) {
            int at = n * PARTS_MOST + i;
            return n >= 0 && n < top && i >= 0 && at < link.length ? link[at] : NONE;
        }

        private void setPart(int n, int i, int to) {
            int at = n * PARTS_MOST + i;
            if (n >= 0 && n < top && i >= 0 && at < link.length) {
                link[at] = to;
            }
        }

        private static int[] grown(int[] row, int most) {
            return row.length * 2 <= most ? Arrays.copyOf(row, row.length * 2) : row;
        }

        private int make(int s) {
            if (top == sign.length) {
                sign = grown(sign, ROOM_MOST);
                listed = grown(listed, ROOM_MOST);
                link = grown(link, ROOM_MOST * PARTS_MOST);
            }
            if (top >= sign.length) {
                return NONE;
            }
            int made = top;
            top++;
            sign[made] = s;
            setPart(made, 0, NONE);
            return made;
        }

        /** With UNKNOWNS of its own, or with those of what was built ahead of it. */
        int build(Flat flat, boolean hasOwn) {
            if (hasOwn) {
                Arrays.fill(unknownOf, NONE);
            }
            openTop = 0;
            // From behind: so the parts stand ready, the first on top, when their CON comes.
            for (int i = flat.size - 1; i >= 0; i--) {
                int s = flat.at(i);
                int made = s >= FIRST_VAR ? unknown(s - FIRST_VAR) : make(s);
                for (int p = 0; p < Flat.partsOf(s); p++) {
                    setPart(made, p, popOpen());
                }
                pushOpen(made);
            }
            return popOpen();
        }

        private int unknown(int v) {
            if (v < 0 || v >= LETTERS) {
                return NONE;
            }
            if (unknownOf[v] == NONE) {
                unknownOf[v] = make(FIRST_VAR);
            }
            return unknownOf[v];
        }

        private void pushOpen(int n) {
            if (openTop < OPEN_MOST) {
                open[openTop] = n;
                openTop++;
            }
        }

        private int popOpen() {
            if (openTop == 0) {
                return NONE;
            }
            openTop--;
            return open[openTop];
        }

        private void pushParts(int n) {
            for (int p = Flat.partsOf(signOf(n)) - 1; p >= 0; p--) {
                pushOpen(partOf(n, p));
            }
        }

        /** The node that n is, as far as UNKNOWNS are solved. */
        private int solved(int n) {
            int at = n;
            for (int i = 0; i < top && signOf(at) == FIRST_VAR && partOf(at, 0) != NONE; i++) {
                at = partOf(at, 0);
            }
            return at;
        }

        // ---- putting for UNKNOWNS

        boolean unify(int a, int b) {
            pairTop = 0;
            pushPair(a, b);
            for (int i = 0; i < STEPS_MOST && pairTop > 1; i++) {
                pairTop -= 2;
                int x = solved(pairs[pairTop]);
                int y = solved(pairs[pairTop + 1]);
                if (x == y) {
                    continue;
                }
                if (isUnknown(y)) {
                    int former = x;
                    x = y;
                    y = former;
                }
                if (isUnknown(x)) {
                    if (standsIn(x, y)) {
                        return false;
                    }
                    put(x, y);
                } else if (signOf(x) == signOf(y)) {
                    pushPairsOfParts(x, y);
                } else {
                    return false;
                }
            }
            return pairTop == 0;
        }

        private void pushPair(int a, int b) {
            if (pairTop + 2 <= OPEN_MOST) {
                pairs[pairTop] = a;
                pairs[pairTop + 1] = b;
                pairTop += 2;
            }
        }

        private void pushPairsOfParts(int x, int y) {
            for (int p = Flat.partsOf(signOf(x)) - 1; p >= 0; p--) {
                pushPair(partOf(x, p), partOf(y, p));
            }
        }

        private void put(int unknown, int n) {
            if (trailTop == trail.length) {
                trail = grown(trail, ROOM_MOST);
            }
            if (trailTop < trail.length) {
                trail[trailTop] = unknown;
                trailTop++;
                setPart(unknown, 0, n);
            }
        }

        /**
         * Each node is gone through once, as what is solved may share much. The marks of the nodes that are listed are
         * taken away again, so that no call finds any of another one's.
         */
        private boolean standsIn(int unknown, int n) {
            openTop = 0;
            list(solved(n));
            for (int i = 0; i < OPEN_MOST && i < openTop && !isListed(unknown); i++) {
                int at = open[i];
                for (int p = 0; p < Flat.partsOf(signOf(at)); p++) {
                    list(solved(partOf(at, p)));
                }
            }
            boolean stands = isListed(unknown);
            for (int i = 0; i < OPEN_MOST && i < openTop; i++) {
                setListed(open[i], 0);
            }
            return stands;
        }

        private void list(int n) {
            if (!isListed(n) && openTop < OPEN_MOST) {
                setListed(n, 1);
                pushOpen(n);
            }
        }

        private boolean isListed(int n) {
            return n >= 0 && n < top && n < listed.length && listed[n] == 1;
        }

        private void setListed(int n, int to) {
            if (n >= 0 && n < top && n < listed.length) {
                listed[n] = to;
            }
        }

        /** What was put since mark goes again, and so do the nodes from newTop on. */
        void back(int mark, int newTop) {
            while (trailTop > mark && trailTop > 0) {
                trailTop--;
                setPart(trail[trailTop], 0, NONE);
            }
            top = Math.min(top, newTop);
        }

        /** What was put since mark is written down, to be put again when all others have been tried. */
        void save(int mark) {
            for (int i = Math.max(mark, 0); i < trailTop; i++) {
                if (savedTop + 2 > saved.length) {
                    saved = grown(saved, ROOM_MOST);
                }
                if (savedTop + 2 <= saved.length) {
                    saved[savedTop] = trail[i];
                    saved[savedTop + 1] = partOf(trail[i], 0);
                    savedTop += 2;
                }
            }
        }

        void putAgain(int from) {
            for (int i = Math.max(from, 0); i + 1 < savedTop; i += 2) {
                put(saved[i], saved[i + 1]);
            }
            savedTop = from;
        }

        // ---- as a row

        /** As n is now: UNKNOWNS numbered by ORDER. */
        void flatten(int n, Flat into) {
            into.clear();
            openTop = 0;
            nameCount = 0;
            pushOpen(n);
            for (int i = 0; i <= SIZE_MOST && openTop > 0; i++) {
                int at = solved(popOpen());
                into.add(isUnknown(at) ? FIRST_VAR + nameOf(at) : signOf(at));
                if (!isUnknown(at)) {
                    pushParts(at);
                }
            }
        }

        private int nameOf(int unknown) {
            for (int i = 0; i < nameCount; i++) {
                if (names[i] == unknown) {
                    return i;
                }
            }
            if (nameCount < names.length) {
                names[nameCount] = unknown;
                nameCount++;
            }
            return nameCount - 1;
        }
    }

    /** Rows of a NODE's columns. */
    private static final class Nodes {
        private static final int ROOM_MOST = 1 << 17;

        int top;
        private int[] cells = new int[32 * COLUMNS];

        boolean has(int k) {
            return k >= 0 && k < top;
        }

        int get(int k, int column) {
            int at = k * COLUMNS + column;
            return k >= 0 && k < top && column >= 0 && column < COLUMNS && at < cells.length ? cells[at] : NONE;
        }

        void set(int k, int column, int to) {
            int at = k * COLUMNS + column;
            if (k >= 0 && k < top && column >= 0 && column < COLUMNS && at < cells.length) {
                cells[at] = to;
            }
        }

        int add() {
            if ((top + 1) * COLUMNS > cells.length && cells.length < ROOM_MOST) {
                cells = Arrays.copyOf(cells, cells.length * 2);
            }
            if ((top + 1) * COLUMNS > cells.length) {
                return NONE;
            }
            int made = top;
            top++;
            return made;
        }
    }

    /** Trees that are kept: NODES with their GOALS as they are at the end. ABOVE counts from the tree's first NODE. */
    private static final class Forest {
        private static final int ROOM_MOST = 1 << 20;

        final Nodes nodes = new Nodes();
        private int[] signs = new int[256];
        private int signTop;

        void clear() {
            nodes.top = 0;
            signTop = 0;
        }

        /** A NODE like row k of another, but for its place; of a GOAL that is too large the SIZE alone is kept. */
        void add(Flat goal, Nodes other, int k, int above, int need) {
            int made = nodes.add();
            nodes.set(made, GIVEN, other.get(k, GIVEN));
            nodes.set(made, ABOVE, above);
            nodes.set(made, NEED, need);
            nodes.set(made, LEVEL, other.get(k, LEVEL));
            nodes.set(made, CANDIDATES, other.get(k, CANDIDATES));
            nodes.set(made, FAILED, other.get(k, FAILED));
            nodes.set(made, SIGNS, signTop);
            nodes.set(made, SIZE, Math.min(goal.size, SIZE_MOST + 1));
            for (int i = 0; i < goal.size && goal.size <= SIZE_MOST; i++) {
                addSign(goal.at(i));
            }
        }

        private void addSign(int s) {
            if (signTop == signs.length && signs.length < ROOM_MOST) {
                signs = Arrays.copyOf(signs, signs.length * 2);
            }
            if (signTop < signs.length) {
                signs[signTop] = s;
                signTop++;
            }
        }

        void goalInto(int k, Flat into) {
            into.clear();
            int from = nodes.get(k, SIGNS);
            int size = nodes.get(k, SIZE);
            for (int i = 0; i < size; i++) {
                int at = from + i;
                into.add(size <= SIZE_MOST && at >= 0 && at < signTop ? signs[at] : NONE);
            }
        }

        int deepest() {
            int most = 0;
            for (int k = 0; k < nodes.top; k++) {
                most = Math.max(most, deepOf(k));
            }
            return most;
        }

        int deepOf(int k) {
            int deep = 0;
            int at = nodes.get(k, ABOVE);
            for (int i = 0; i < NODES_MOST && at != NONE; i++) {
                deep++;
                at = nodes.get(at, ABOVE);
            }
            return deep;
        }

        int unlikeGivens() {
            int bits = 0;
            for (int k = 0; k < nodes.top; k++) {
                bits |= 1 << nodes.get(k, GIVEN);
            }
            return Integer.bitCount(bits);
        }
    }

    /** The remembered GOALS: the closed ones that were FOUND with their trees, and those that were not. */
    private static final class Memory {
        int count;
        final int[] nodes = new int[REMEMBERED_MOST];
        final int[] from = new int[REMEMBERED_MOST];
        final Forest forest = new Forest();
        private final int[] scopes = new int[REMEMBERED_MOST];
        private final Flat[] goals = new Flat[REMEMBERED_MOST];

        void forget() {
            count = 0;
            forest.clear();
        }

        int find(int scope, Flat goal) {
            for (int m = 0; m < count; m++) {
                if (scopes[m] == scope && goals[m] != null && goals[m].isSame(goal)) {
                    return m;
                }
            }
            return NONE;
        }

        boolean takes(int scope, Flat goal) {
            return count < REMEMBERED_MOST && find(scope, goal) == NONE;
        }

        /** Its tree, nodeCount NODES (0: NOT FOUND), is planted behind this call. */
        void add(int scope, Flat goal, int nodeCount) {
            if (count >= REMEMBERED_MOST) {
                return;
            }
            if (goals[count] == null) {
                goals[count] = new Flat(SIZE_MOST);
            }
            goals[count].take(goal);
            scopes[count] = scope;
            nodes[count] = nodeCount;
            from[count] = forest.nodes.top;
            count++;
        }

        int nodesOf(int m) {
            return m >= 0 && m < count ? nodes[m] : 0;
        }

        int fromOf(int m) {
            return m >= 0 && m < count ? from[m] : 0;
        }
    }

    /** How many VALUES the TYPES have that were counted latest in one call, so that none is counted over and over. */
    private static final class Counts {
        private static final int KEPT_MOST = 128;

        private final Flat[] types = new Flat[KEPT_MOST];
        private final int[] deeps = new int[KEPT_MOST];
        private final int[] totals = new int[KEPT_MOST];
        private int kept;
        private int next;

        void clear() {
            kept = 0;
            next = 0;
        }

        int find(Flat type, int deep) {
            for (int i = 0; i < kept && i < KEPT_MOST; i++) {
                if (deeps[i] == deep && types[i] != null && types[i].isSame(type)) {
                    return totals[i];
                }
            }
            return NONE;
        }

        /** In place of the oldest one, if there is no room; a TYPE that is too large isn't kept. */
        void keep(Flat type, int deep, int total) {
            if (type.size > SIZE_MOST) {
                return;
            }
            int at = next >= 0 && next < KEPT_MOST ? next : 0;
            if (types[at] == null) {
                types[at] = new Flat(SIZE_MOST);
            }
            types[at].take(type);
            deeps[at] = deep;
            totals[at] = total;
            next = at + 1;
            kept = Math.max(kept, next);
        }
    }

    /**
     * One asking. The plan has a row for each GOAL on the way, those for its NEEDS right behind; tryBest() drops the
     * rows of what FAILED, so behind a row of a GOAL that is FOUND stand just those of its tree.
     */
    private static final class Search {
        final Terms terms = new Terms();
        final Memory memory = new Memory();
        final int[] tally = new int[TOLD];
        final Flat clash = new Flat(SIZE_MOST);
        int first = NONE;
        int second = NONE;
        private final Nodes plan = new Nodes();
        private final Counts counts = new Counts();
        private final Flat row = new Flat(SIZE_MOST);
        private final Flat other = new Flat(SIZE_MOST);
        private final int[] underGiven = new int[OTHERS_MOST];
        private final int[] underGoal = new int[OTHERS_MOST];
        private final int[] needAt = new int[OTHERS_MOST * NEEDS_MOST];
        private final int[] place = new int[GOALS_MOST];
        private int start;
        private int outs;
        private int shuts;
        private int stop;
        private boolean remembers;
        private Text text;

        Search(Text told) {
            text = told;
        }

        void tell(Text told) {
            text = told;
            memory.forget();
        }

        void begin(int scope, int outsThen, int shutsThen) {
            terms.clear();
            plan.top = 0;
            Arrays.fill(tally, 0);
            start = scope;
            outs = outsThen;
            shuts = shutsThen;
            stop = FOUND;
        }

        int run(Flat goal, int scope, int outsThen, int shutsThen, boolean remembering) {
            begin(scope, outsThen, shutsThen);
            remembers = remembering;
            int nodes = askGoal(terms.build(goal, true), 0, NONE, NONE);
            tally[ENDED] = stop == FOUND && nodes == 0 ? NOT_FOUND : stop;
            return tally[ENDED];
        }

        // ---- which GIVENS

        int usable(int scope) {
            return !text.hasScope(scope) || isIn(shuts, scope) ? 0 : text.own[scope] & ~outs;
        }

        int usableFrom(int scope) {
            int bits = 0;
            int around = scope;
            for (int level = 0; level <= SCOPES_AROUND_MOST && around != NONE; level++) {
                bits |= usable(around);
                around = text.aroundOf(around);
            }
            return bits;
        }

        /** The CANDIDATES of one LEVEL. */
        int suited(int goal, int scope) {
            int mark = terms.trailTop;
            int top = terms.top;
            int among = usable(scope);
            int bits = 0;
            for (int g = 0; g < text.givenCount; g++) {
                if (isIn(among, g)) {
                    if (terms.unify(terms.build(text.part(g, 0), true), goal)) {
                        bits |= 1 << g;
                    }
                    terms.back(mark, top);
                }
            }
            return bits;
        }

        // ---- a GOAL; each of these tells the NODES of the tree, 0 where nothing is FOUND

        private int askGoal(int goal, int depth, int above, int need) {
            if (!mayAsk(goal, depth)) {
                return 0;
            }
            tally[GOALS]++;
            tally[GOALS_DEEP] = Math.max(tally[GOALS_DEEP], depth + 1);
            int me = addToPlan(goal, above, need);
            boolean isClosed = remembers && row.isClosed();
            int met = isClosed ? memory.find(start, row) : NONE;
            if (met != NONE) {
                return meet(met, me);
            }
            int cutsAhead = tally[CUT];
            int nodes = seek(goal, depth, me);
            if (isClosed && stop == FOUND && tally[CUT] == cutsAhead) {
                remember(goal, me, nodes);
            }
            return nodes;
        }

        /** Leaves the GOAL, as it is now, in row. */
        private boolean mayAsk(int goal, int depth) {
            if (tally[GOALS] == GOALS_MOST) {
                stop = TOO_MANY_GOALS;
                return false;
            }
            if (depth >= OTHERS_MOST) {
                stop = TOO_DEEP;
                return false;
            }
            terms.flatten(goal, row);
            if (row.size > SIZE_MOST) {
                stop = TOO_LARGE;
                return false;
            }
            return true;
        }

        private int addToPlan(int goal, int above, int need) {
            int me = plan.add();
            plan.set(me, ABOVE, above);
            plan.set(me, NEED, need);
            plan.set(me, GOAL, goal);
            plan.set(me, REMEMBERED, NONE);
            return me;
        }

        private int meet(int met, int me) {
            tally[MET]++;
            plan.set(me, REMEMBERED, met);
            return memory.nodesOf(met);
        }

        private void remember(int goal, int me, int nodes) {
            terms.flatten(goal, row);
            if (!memory.takes(start, row)) {
                return;
            }
            memory.add(start, row, nodes);
            if (nodes > 0) {
                plant(me, memory.forest);
            }
        }

        private int seek(int goal, int depth, int me) {
            int scope = start;
            for (int level = 0; level <= SCOPES_AROUND_MOST && scope != NONE; level++) {
                plan.set(me, LEVEL, level);
                int nodes = seekAt(scope, goal, depth, me);
                if (nodes != 0 || stop != FOUND) {
                    return nodes;
                }
                scope = text.aroundOf(scope);
            }
            return 0;
        }

        private int seekAt(int scope, int goal, int depth, int me) {
            int left = suited(goal, scope);
            plan.set(me, CANDIDATES, Integer.bitCount(left));
            plan.set(me, FAILED, 0);
            for (int round = 0; round < GIVENS_MOST && left != 0; round++) {
                int best = text.bestOf(left);
                int nodes = tryBest(best, goal, depth, me);
                if (nodes != 0 || stop != FOUND) {
                    return nodes;
                }
                left &= ~best;
            }
            return 0;
        }

        private int tryBest(int best, int goal, int depth, int me) {
            int mark = terms.trailTop;
            int savedFrom = terms.savedTop;
            int top = terms.top;
            int planTop = plan.top;
            int nodes = 0;
            int one = NONE;
            int another = NONE;
            for (int g = 0; g < text.givenCount; g++) {
                if (!isIn(best, g)) {
                    continue;
                }
                int nodesByIt = isCut(g, goal, depth) ? 0 : tryGiven(g, goal, depth, me);
                if (stop != FOUND) {
                    return 0;
                }
                if (nodesByIt == 0) {
                    plan.set(me, FAILED, plan.get(me, FAILED) + 1);
                } else if (one == NONE) {
                    one = g;
                    nodes = nodesByIt;
                    terms.save(mark);
                    top = terms.top;
                    planTop = plan.top;
                } else if (another == NONE) {
                    another = g;
                }
                terms.back(mark, top);
                plan.top = planTop;
            }
            if (another != NONE) {
                tellBoth(one, another, goal);
                return 0;
            }
            terms.putAgain(savedFrom);
            plan.set(me, GIVEN, one);
            return nodes;
        }

        private void tellBoth(int one, int another, int goal) {
            stop = AMBIGUOUS;
            first = one;
            second = another;
            terms.flatten(goal, clash);
        }

        private boolean isCut(int g, int goal, int depth) {
            for (int d = 0; d < depth && d < OTHERS_MOST; d++) {
                if (underGiven[d] == g) {
                    terms.flatten(goal, row);
                    terms.flatten(underGoal[d], other);
                    if (other.size <= row.size && other.cover() == row.cover()) {
                        tally[CUT]++;
                        return true;
                    }
                }
            }
            return false;
        }

        private int tryGiven(int g, int goal, int depth, int me) {
            tally[TRIED]++;
            underGiven[depth] = g;
            underGoal[depth] = goal;
            if (!terms.unify(buildGiven(g, depth), goal)) {
                return 0;
            }
            int nodes = 1;
            for (int i = 0; i < text.needsOf(g); i++) {
                int below = askGoal(needAt[depth * NEEDS_MOST + i], depth + 1, me, i);
                if (below == 0) {
                    return 0;
                }
                nodes += below;
            }
            if (nodes > NODES_MOST) {
                stop = TREE_TOO_LARGE;
                return 0;
            }
            return nodes;
        }

        /** Tells its RESULT; its NEEDS stand in the depth's row, as each depth has but one GIVEN under way. */
        private int buildGiven(int g, int depth) {
            int result = terms.build(text.part(g, 0), true);
            for (int i = 0; i < text.needsOf(g); i++) {
                needAt[depth * NEEDS_MOST + i] = terms.build(text.part(g, i + 1), false);
            }
            return result;
        }

        // ---- the tree

        /** The plan's rows from one on, as they are now, as a tree behind those that the forest has. */
        void plant(int from, Forest into) {
            int base = into.nodes.top;
            for (int r = from; r < plan.top && r < GOALS_MOST; r++) {
                place[r] = into.nodes.top - base;
                int aboveRow = plan.get(r, ABOVE);
                boolean hasAbove = r > from && aboveRow >= 0 && aboveRow < GOALS_MOST;
                int above = hasAbove ? place[aboveRow] : NONE;
                int need = hasAbove ? plan.get(r, NEED) : NONE;
                int met = plan.get(r, REMEMBERED);
                if (met == NONE) {
                    terms.flatten(plan.get(r, GOAL), row);
                    into.add(row, plan, r, above, need);
                } else {
                    plantRemembered(met, into, base, above, need);
                }
            }
        }

        private void plantRemembered(int met, Forest into, int base, int above, int need) {
            int at = into.nodes.top - base;
            int from = memory.fromOf(met);
            for (int i = 0; i < memory.nodesOf(met); i++) {
                int aboveHere = i == 0 ? above : at + memory.forest.nodes.get(from + i, ABOVE);
                int needHere = i == 0 ? need : memory.forest.nodes.get(from + i, NEED);
                memory.forest.goalInto(from + i, row);
                into.add(row, memory.forest.nodes, from + i, aboveHere, needHere);
            }
        }

        // ---- beside askings

        /** Whether two can be UNIFIED, VARS of one letter being one; what both become stands in into. */
        boolean join(Flat a, Flat b, Flat into) {
            terms.clear();
            int x = terms.build(a, true);
            boolean isJoined = terms.unify(x, terms.build(b, false));
            terms.flatten(x, into);
            return isJoined;
        }

        /** Whether two can be UNIFIED, VARS of both being unlike. */
        boolean canMeet(Flat a, Flat b) {
            terms.clear();
            int x = terms.build(a, true);
            return terms.unify(x, terms.build(b, true));
        }

        int countValues(int goal, int givens, int deep) {
            counts.clear();
            return count(goal, givens, Math.min(deep, VALUES_DEEP_MOST));
        }

        private int count(int goal, int givens, int deep) {
            if (deep <= 0) {
                return deep < 0 ? 0 : countAnew(goal, givens, 0);
            }
            terms.flatten(goal, row);
            int known = counts.find(row, deep);
            if (known != NONE) {
                return known;
            }
            int total = countAnew(goal, givens, deep);
            terms.flatten(goal, row);
            counts.keep(row, deep, total);
            return total;
        }

        private int countAnew(int goal, int givens, int deep) {
            long sum = 0;
            for (int g = 0; g < text.givenCount && sum < VALUES_MOST; g++) {
                if (isIn(givens, g) && (deep > 0 || text.needsOf(g) == 0)) {
                    sum += countBy(g, goal, givens, deep);
                }
            }
            return (int) Math.min(sum, VALUES_MOST);
        }

        private long countBy(int g, int goal, int givens, int deep) {
            int mark = terms.trailTop;
            int top = terms.top;
            long product = terms.unify(buildGiven(g, deep), goal) ? 1 : 0;
            for (int i = 0; i < text.needsOf(g) && product > 0; i++) {
                long below = count(needAt[deep * NEEDS_MOST + i], givens, deep - 1);
                product = Math.min(product * below, VALUES_MOST);
            }
            terms.back(mark, top);
            return product;
        }
    }

    /** The bytes that were written latest. */
    private static final class Written {
        private static final int ROOM = 2000;

        int length;
        private final int[] octets = new int[ROOM];
        private final int[] wanted = new int[SIZE_MOST + 1];

        void clear() {
            length = 0;
        }

        int at(int k) {
            return k >= 0 && k < length && k < ROOM ? octets[k] : NONE;
        }

        private void add(int octet) {
            if (length < ROOM) {
                octets[length] = octet;
                length++;
            }
        }

        private void addNumber(int n) {
            if (n >= 10) {
                add('0' + n / 10 % 10);
            }
            add('0' + n % 10);
        }

        void addFlat(Flat flat) {
            int open = 0;
            for (int i = 0; i < flat.size; i++) {
                addSign(flat.at(i));
                int parts = flat.partsAt(i);
                if (parts > 0 && open < wanted.length) {
                    add('(');
                    wanted[open] = parts;
                    open++;
                } else {
                    open = close(open);
                }
            }
        }

        private void addSign(int s) {
            if (s < FIRST_VAR) {
                add('A' + s / 4);
                return;
            }
            int number = s - FIRST_VAR;
            add('a' + number % LETTERS);
            if (number >= LETTERS) {
                addNumber(number / LETTERS);
            }
        }

        /** Behind a part: a comma if its CON wants another, else the ) of all CONS that end with it. */
        private int close(int open) {
            int left = open;
            while (left > 0) {
                wanted[left - 1]--;
                if (wanted[left - 1] > 0) {
                    add(',');
                    return left;
                }
                add(')');
                left--;
            }
            return left;
        }

        void addTree(Forest tree) {
            int deep = 0;
            for (int k = 0; k < tree.nodes.top; k++) {
                int deepHere = tree.deepOf(k);
                if (k > 0) {
                    addBetween(deep, deepHere);
                }
                add('g');
                addNumber(tree.nodes.get(k, GIVEN));
                deep = deepHere;
            }
            addEnds(deep);
        }

        private void addBetween(int deep, int deepHere) {
            if (deepHere > deep) {
                add('(');
                return;
            }
            addEnds(deep - deepHere);
            add(',');
        }

        private void addEnds(int count) {
            for (int i = 0; i < count; i++) {
                add(')');
            }
        }
    }
}
