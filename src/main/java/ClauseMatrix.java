import java.util.Arrays;

/**
 * Turns a match with nested patterns into a tree of tests, says which rows and alternatives can
 * never be reached and which values no row catches, and runs values through the tree.
 *
 * <p>All arrays are made with the object and used again, so that no call makes anything.
 */
public final class ClauseMatrix {
    public static final int FAIL = -1;
    public static final int CLOSED = -2;
    public static final int NOTYPE = -3;
    public static final int NOCONSTRUCTOR = -4;
    public static final int NOPATTERN = -5;
    public static final int NOVALUE = -6;
    public static final int ILLTYPED = -7;
    public static final int FULL = -8;
    public static final int DEEP = -9;
    public static final int MANY = -10;
    public static final int EMPTY = -11;
    public static final int NOMATCH = -12;
    public static final int NOTREE = -13;
    public static final int TOOBIG = -14;
    public static final int NONE = -15;

    private static final int MOST_OWN_TYPES = 5;
    private static final int MOST_CONSTRUCTORS = 12;
    private static final int MOST_OF_ONE_TYPE = 4;
    private static final int MOST_PATTERNS = 60;
    private static final int MOST_DEPTH = 4;
    private static final int MOST_ALTERNATIVES = 8;
    private static final int MOST_ROWS = 8;
    private static final int MOST_CLAUSES = 16;
    private static final int MOST_NODES = 60;
    private static final int MOST_VALUES = 60;

    /** A pattern of depth 4 asks at the places 1 to 15 at most; place 0 is none. */
    private static final int ASKED_PLACES = 16;
    /** A test at place 15 may open the places 30 and 31, at which nothing asks. */
    private static final int ALL_PLACES = 32;
    private static final int NO_PLACE = 0;
    private static final int WHOLE = 1;

    private static final int INT = 0;
    /** The type, pattern or value of an argument that a constructor does not have. */
    private static final int ABSENT = -1;
    private static final int OPEN_TYPE = -1;
    private static final int NO_TYPE = -1;
    private static final int NO_CLAUSE = -1;
    /** Beyond every int, so that no number is taken for it. */
    private static final long NO_NUMBER = 1L << 32;
    private static final long BELOW_ALL_NUMBERS = -(1L << 32);

    private static final int ANYTHING = 0;
    private static final int A_NUMBER = 1;
    private static final int A_CONSTRUCTOR = 2;

    private final Declarations declared;
    private final Patterns patterns;
    private final Values values;
    private final Match match;
    private final Tree tree;
    private final Witness gap;
    private int latestTests;

    public ClauseMatrix() {
        declared = new Declarations();
        patterns = new Patterns();
        values = new Values();
        match = new Match(patterns);
        tree = new Tree(declared, match);
        gap = new Witness(declared, tree);
        latestTests = 0;
    }

    public void clear() {
        declared.reset();
        patterns.reset();
        values.reset();
        match.reset();
        tree.drop();
        latestTests = 0;
    }

    public int type() {
        if (match.isBegun()) {
            return CLOSED;
        }
        return declared.addType();
    }

    public int constructor(int t, int a, int b) {
        if (match.isBegun()) {
            return CLOSED;
        }
        if (!declared.isOwnType(t) || !declared.canBeArguments(a, b)) {
            return NOTYPE;
        }
        return declared.addConstructor(t, a, b);
    }

    public int begin(int t) {
        if (match.isBegun()) {
            return CLOSED;
        }
        if (!declared.isType(t)) {
            return NOTYPE;
        }
        if (!declared.everyTypeHasValues()) {
            return EMPTY;
        }
        match.beginOver(t);
        return 0;
    }

    public int any() {
        return patterns.addAny();
    }

    public int number(int v) {
        return patterns.addNumber(v);
    }

    public int build(int c, int p, int q) {
        if (!declared.isConstructor(c)) {
            return NOCONSTRUCTOR;
        }
        int a = declared.firstTypeOf(c);
        int b = declared.secondTypeOf(c);
        if (!standsFor(p, patterns.has(p), a) || !standsFor(q, patterns.has(q), b)) {
            return NOPATTERN;
        }
        if (!patterns.fits(p, a) || !patterns.fits(q, b)) {
            return ILLTYPED;
        }
        return patterns.addBuild(c, declared.ownerOf(c), p, q);
    }

    public int either(int p, int q) {
        if (!patterns.has(p) || !patterns.has(q)) {
            return NOPATTERN;
        }
        if (!patterns.agree(p, q)) {
            return ILLTYPED;
        }
        return patterns.addEither(p, q);
    }

    public int row(int p) {
        if (!match.isBegun()) {
            return NOMATCH;
        }
        if (!patterns.has(p)) {
            return NOPATTERN;
        }
        if (!patterns.fits(p, match.typeOver())) {
            return ILLTYPED;
        }
        int added = match.addRow(p);
        if (added != FULL) {
            tree.drop();
        }
        return added;
    }

    public int compile() {
        if (!match.isBegun()) {
            return NOMATCH;
        }
        if (!tree.grow()) {
            return TOOBIG;
        }
        gap.readFromTree();
        return tree.size();
    }

    public int kinds() {
        return tree.isThere() ? tree.countKinds() : NOTREE;
    }

    public int longest() {
        return tree.isThere() ? tree.mostTests() : NOTREE;
    }

    public int useless(int r) {
        if (!tree.isThere()) {
            return NOTREE;
        }
        if (!match.hasRow(r)) {
            return NONE;
        }
        return match.alternativesOutside(tree.caught(), r);
    }

    public int witnessLength() {
        return tree.isThere() ? gap.length() : NOTREE;
    }

    public int witnessKind(int i) {
        if (!tree.isThere()) {
            return NOTREE;
        }
        return gap.has(i) ? gap.kindOf(i) : NONE;
    }

    public int witness(int i) {
        return tree.isThere() && gap.has(i) ? gap.symbolOf(i) : 0;
    }

    public int valueNumber(int v) {
        return values.addInt(v);
    }

    public int valueOf(int c, int x, int y) {
        if (!declared.isConstructor(c)) {
            return NOCONSTRUCTOR;
        }
        int a = declared.firstTypeOf(c);
        int b = declared.secondTypeOf(c);
        if (!standsFor(x, values.has(x), a) || !standsFor(y, values.has(y), b)) {
            return NOVALUE;
        }
        if (!values.isOf(x, a) || !values.isOf(y, b)) {
            return ILLTYPED;
        }
        return values.addBuilt(c, declared.ownerOf(c), x, y);
    }

    public int run(int v) {
        if (!tree.isThere()) {
            return NOTREE;
        }
        if (!values.has(v)) {
            return NOVALUE;
        }
        if (!values.isOf(v, match.typeOver())) {
            return ILLTYPED;
        }
        int leaf = tree.leafFor(values, v);
        latestTests = tree.testsAbove(leaf);
        return match.rowOf(tree.clauseAt(leaf));
    }

    public int tests() {
        return latestTests;
    }

    /** Whether a part is given just when the constructor has that argument. */
    private static boolean standsFor(int part, boolean known, int argumentType) {
        return argumentType == ABSENT ? part == ABSENT : known;
    }

    /** The own types and their constructors. */
    private static final class Declarations {
        private final int[] owner = new int[MOST_CONSTRUCTORS];
        private final int[] firstType = new int[MOST_CONSTRUCTORS];
        private final int[] secondType = new int[MOST_CONSTRUCTORS];
        private int ownTypes = 0;
        private int constructors = 0;

        void reset() {
            ownTypes = 0;
            constructors = 0;
        }

        int addType() {
            if (ownTypes >= MOST_OWN_TYPES) {
                return FULL;
            }
            ownTypes++;
            return ownTypes;
        }

        int addConstructor(int t, int a, int b) {
            if (constructors >= MOST_CONSTRUCTORS || countOfType(t) >= MOST_OF_ONE_TYPE) {
                return FULL;
            }
            int c = constructors;
            owner[c] = t;
            firstType[c] = a;
            secondType[c] = b;
            constructors++;
            return c;
        }

        private int countOfType(int t) {
            int count = 0;
            for (int c = 0; c < constructors; c++) {
                if (owner[c] == t) {
                    count++;
                }
            }
            return count;
        }

        boolean isType(int t) {
            return t >= INT && t <= ownTypes;
        }

        boolean isOwnType(int t) {
            return t > INT && t <= ownTypes;
        }

        boolean canBeArguments(int a, int b) {
            if (a == ABSENT) {
                return b == ABSENT;
            }
            return isType(a) && (b == ABSENT || isType(b));
        }

        boolean isConstructor(int c) {
            return c >= 0 && c < constructors;
        }

        int constructorCount() {
            return constructors;
        }

        int ownerOf(int c) {
            return isConstructor(c) ? owner[c] : NO_TYPE;
        }

        int firstTypeOf(int c) {
            return isConstructor(c) ? firstType[c] : ABSENT;
        }

        int secondTypeOf(int c) {
            return isConstructor(c) ? secondType[c] : ABSENT;
        }

        /** The places, as bits, of the arguments of constructor c when it stands at a place. */
        int argumentPlaces(int c, int place) {
            int bits = 0;
            if (firstTypeOf(c) != ABSENT) {
                bits |= 1 << (2 * place);
            }
            if (secondTypeOf(c) != ABSENT) {
                bits |= 1 << (2 * place + 1);
            }
            return bits;
        }

        boolean everyTypeHasValues() {
            int inhabited = 1 << INT;
            // Each round finds one more type at least, as long as there is one to be found.
            for (int round = 0; round < ownTypes; round++) {
                inhabited = withTypesBuiltFrom(inhabited);
            }
            return inhabited == (1 << (ownTypes + 1)) - 1;
        }

        private int withTypesBuiltFrom(int inhabited) {
            int found = inhabited;
            for (int c = 0; c < constructors; c++) {
                if (canBeGiven(firstType[c], found) && canBeGiven(secondType[c], found)) {
                    found |= 1 << owner[c];
                }
            }
            return found;
        }

        private static boolean canBeGiven(int argumentType, int inhabited) {
            return argumentType == ABSENT || (inhabited >> argumentType & 1) == 1;
        }
    }

    /** The patterns; the parts of each have lesser numbers than it has. */
    private static final class Patterns {
        /** Whether the pattern is an EITHER. */
        private final boolean[] twofold = new boolean[MOST_PATTERNS];
        private final int[] typeOf = new int[MOST_PATTERNS];
        /** The int of a NUMBER, the constructor of a BUILD. */
        private final int[] symbol = new int[MOST_PATTERNS];
        private final int[] first = new int[MOST_PATTERNS];
        private final int[] second = new int[MOST_PATTERNS];
        private final int[] depth = new int[MOST_PATTERNS];
        private final int[] alternatives = new int[MOST_PATTERNS];
        private int count = 0;

        void reset() {
            count = 0;
        }

        boolean has(int p) {
            return p >= 0 && p < count;
        }

        int addAny() {
            return add(false, OPEN_TYPE, 0);
        }

        int addNumber(int v) {
            return add(false, INT, v);
        }

        int addBuild(int c, int owner, int p, int q) {
            int deep = 1 + Math.max(depthOf(p), depthOf(q));
            if (deep > MOST_DEPTH) {
                return DEEP;
            }
            int choices = choicesOf(p) * choicesOf(q);
            if (choices > MOST_ALTERNATIVES) {
                return MANY;
            }
            return withParts(add(false, owner, c), p, q, deep, choices);
        }

        int addEither(int p, int q) {
            int choices = choicesOf(p) + choicesOf(q);
            if (choices > MOST_ALTERNATIVES) {
                return MANY;
            }
            int common = isOpen(p) ? typeOf[q] : typeOf[p];
            int deep = Math.max(depthOf(p), depthOf(q));
            return withParts(add(true, common, 0), p, q, deep, choices);
        }

        private int add(boolean isTwofold, int itsType, int itsSymbol) {
            if (count >= MOST_PATTERNS) {
                return FULL;
            }
            int p = count;
            count++;
            twofold[p] = isTwofold;
            typeOf[p] = itsType;
            symbol[p] = itsSymbol;
            return withParts(p, ABSENT, ABSENT, 1, 1);
        }

        private int withParts(int added, int p, int q, int deep, int choices) {
            if (!has(added)) {
                return added;
            }
            first[added] = p;
            second[added] = q;
            depth[added] = deep;
            alternatives[added] = choices;
            return added;
        }

        boolean isOpen(int p) {
            return has(p) && typeOf[p] == OPEN_TYPE;
        }

        /** An argument that is absent is fitted by the pattern that is absent. */
        boolean fits(int p, int wanted) {
            return has(p) ? isOpen(p) || typeOf[p] == wanted : wanted == ABSENT;
        }

        boolean agree(int p, int q) {
            return isOpen(q) || has(q) && fits(p, typeOf[q]);
        }

        boolean isEither(int p) {
            return has(p) && twofold[p];
        }

        int itsType(int p) {
            return has(p) ? typeOf[p] : OPEN_TYPE;
        }

        int symbolOf(int p) {
            return has(p) ? symbol[p] : 0;
        }

        int firstOf(int p) {
            return has(p) ? first[p] : ABSENT;
        }

        int secondOf(int p) {
            return has(p) ? second[p] : ABSENT;
        }

        private int depthOf(int p) {
            return has(p) ? depth[p] : 0;
        }

        /** How many alternatives p has; an absent one leaves one choice, so never less than 1. */
        int choicesOf(int p) {
            return has(p) ? Math.max(1, alternatives[p]) : 1;
        }
    }

    /** The values; the parts of each have lesser numbers than it has. */
    private static final class Values {
        private final int[] typeOf = new int[MOST_VALUES];
        /** The int itself, or the constructor. */
        private final int[] symbol = new int[MOST_VALUES];
        private final int[] first = new int[MOST_VALUES];
        private final int[] second = new int[MOST_VALUES];
        private int count = 0;

        void reset() {
            count = 0;
        }

        boolean has(int v) {
            return v >= 0 && v < count;
        }

        int addInt(int v) {
            return addBuilt(v, INT, ABSENT, ABSENT);
        }

        int addBuilt(int itsSymbol, int itsType, int x, int y) {
            if (count >= MOST_VALUES) {
                return FULL;
            }
            int v = count;
            symbol[v] = itsSymbol;
            typeOf[v] = itsType;
            first[v] = x;
            second[v] = y;
            count++;
            return v;
        }

        /** An argument that is absent is given by the value that is absent. */
        boolean isOf(int v, int wanted) {
            return has(v) ? typeOf[v] == wanted : wanted == ABSENT;
        }

        int symbolOf(int v) {
            return has(v) ? symbol[v] : 0;
        }

        int firstOf(int v) {
            return has(v) ? first[v] : ABSENT;
        }

        int secondOf(int v) {
            return has(v) ? second[v] : ABSENT;
        }
    }

    /** The match: its rows, and for each clause what it asks at which place. */
    private static final class Match {
        private final Patterns patterns;
        /** Entry r is the first clause of row r; one more entry says where the last row ends. */
        private final int[] firstClause = new int[MOST_ROWS + 1];
        private final int[] rowOfClause = new int[MOST_CLAUSES];
        /** For each place, a bit for each clause that asks there. */
        private final int[] askers = new int[ASKED_PLACES];
        private final int[] askedSymbol = new int[ASKED_PLACES * MOST_CLAUSES];
        private final int[] askedType = new int[ASKED_PLACES * MOST_CLAUSES];
        private int over = NO_TYPE;
        private int rows = 0;
        private int clauses = 0;

        Match(Patterns patterns) {
            this.patterns = patterns;
        }

        void reset() {
            over = NO_TYPE;
            rows = 0;
            clauses = 0;
            Arrays.fill(askers, 0);
        }

        boolean isBegun() {
            return over != NO_TYPE;
        }

        void beginOver(int t) {
            over = t;
        }

        int typeOver() {
            return over;
        }

        boolean hasRow(int r) {
            return r >= 0 && r < rows;
        }

        int addRow(int p) {
            int added = patterns.choicesOf(p);
            if (rows >= MOST_ROWS || clauses + added > MOST_CLAUSES) {
                return FULL;
            }
            int r = rows;
            for (int alternative = 0; alternative < added; alternative++) {
                rowOfClause[clauses + alternative] = r;
                layOut(clauses + alternative, p, alternative, WHOLE);
            }
            clauses += added;
            rows++;
            firstClause[rows] = clauses;
            return r;
        }

        /** Notes what an alternative of pattern p asks, when p stands at the place. */
        private void layOut(int clause, int p, int alternative, int place) {
            int plain = p;
            int rest = alternative;
            // An EITHER has an alternative more than each of its parts, so this many go deep enough.
            for (int i = 0; i < MOST_ALTERNATIVES && patterns.isEither(plain); i++) {
                int ofFirst = patterns.choicesOf(patterns.firstOf(plain));
                boolean inFirst = rest < ofFirst;
                rest = inFirst ? rest : rest - ofFirst;
                plain = inFirst ? patterns.firstOf(plain) : patterns.secondOf(plain);
            }
            // What is no EITHER and has an open type is ANY, which asks nothing.
            if (place >= ASKED_PLACES || !patterns.has(plain) || patterns.isOpen(plain)) {
                return;
            }
            askers[place] |= 1 << clause;
            askedSymbol[place * MOST_CLAUSES + clause] = patterns.symbolOf(plain);
            askedType[place * MOST_CLAUSES + clause] = patterns.itsType(plain);
            int ofSecond = patterns.choicesOf(patterns.secondOf(plain));
            layOut(clause, patterns.firstOf(plain), rest / ofSecond, 2 * place);
            layOut(clause, patterns.secondOf(plain), rest % ofSecond, 2 * place + 1);
        }

        int allClauses() {
            return (1 << clauses) - 1;
        }

        int firstOf(int left) {
            for (int clause = 0; clause < clauses; clause++) {
                if ((left >> clause & 1) == 1) {
                    return clause;
                }
            }
            return NO_CLAUSE;
        }

        int rowOf(int clause) {
            return clause >= 0 && clause < clauses ? rowOfClause[clause] : FAIL;
        }

        /** The place that is tested when these clauses are left; NO_PLACE when none is. */
        int placeToTest(int left, int open) {
            int firstLeft = left & -left;
            int best = NO_PLACE;
            int most = 0;
            for (int place = WHOLE; place < ASKED_PLACES; place++) {
                boolean asked = (open >> place & 1) == 1 && (askers[place] & firstLeft) != 0;
                int asking = Integer.bitCount(askers[place] & left);
                if (asked && asking > most) {
                    best = place;
                    most = asking;
                }
            }
            return best;
        }

        int typeAskedAt(int place, int left) {
            int asker = firstOf(left & askers[place]);
            return asker == NO_CLAUSE ? NO_TYPE : askedType[place * MOST_CLAUSES + asker];
        }

        int notAsking(int left, int place) {
            return left & ~askers[place];
        }

        int notAskingElse(int left, int place, int symbol) {
            int kept = notAsking(left, place);
            for (int clause = 0; clause < clauses; clause++) {
                if (askedSymbol[place * MOST_CLAUSES + clause] == symbol) {
                    kept |= left & 1 << clause;
                }
            }
            return kept;
        }

        /** The least number above the floor that some clause left asks for at the place. */
        long leastAbove(long floor, int left, int place) {
            int asking = left & askers[place];
            long least = NO_NUMBER;
            for (int clause = 0; clause < clauses; clause++) {
                long number = askedSymbol[place * MOST_CLAUSES + clause];
                if ((asking >> clause & 1) == 1 && number > floor && number < least) {
                    least = number;
                }
            }
            return least;
        }

        /** The sum of 2 to the number of each alternative of row r that is not caught. */
        int alternativesOutside(int caught, int r) {
            if (!hasRow(r)) {
                return 0;
            }
            int ofRow = (1 << firstClause[r + 1]) - (1 << firstClause[r]);
            return (ofRow & ~caught) >> firstClause[r];
        }
    }

    /**
     * The tree, level by level: node 0 is the top, the branches of a test stand side by side in
     * their order, and every branch has a greater number than its test.
     */
    private static final class Tree {
        private final Declarations declared;
        private final Match match;
        private final int[] left = new int[MOST_NODES];
        private final int[] open = new int[MOST_NODES];
        private final int[] label = new int[MOST_NODES];
        private final int[] above = new int[MOST_NODES];
        /** NO_PLACE makes the node a leaf. */
        private final int[] place = new int[MOST_NODES];
        private final int[] testType = new int[MOST_NODES];
        private final int[] clause = new int[MOST_NODES];
        private final int[] firstBranch = new int[MOST_NODES];
        private final int[] branchCount = new int[MOST_NODES];
        private final int[] kind = new int[MOST_NODES];
        private final boolean[] failing = new boolean[MOST_NODES];
        private final int[] valueAt = new int[ALL_PLACES];
        private int size = 0;
        private int caught = 0;
        private boolean there = false;

        Tree(Declarations declared, Match match) {
            this.declared = declared;
            this.match = match;
        }

        void drop() {
            there = false;
        }

        boolean isThere() {
            return there;
        }

        int size() {
            return size;
        }

        /** A bit for each clause that is a leaf. */
        int caught() {
            return caught;
        }

        int testsAbove(int node) {
            return has(node) ? above[node] : 0;
        }

        int clauseAt(int node) {
            return has(node) ? clause[node] : NO_CLAUSE;
        }

        int placeOf(int node) {
            return has(node) ? place[node] : NO_PLACE;
        }

        int typeOfTest(int node) {
            return has(node) ? testType[node] : NO_TYPE;
        }

        int labelOf(int node) {
            return has(node) ? label[node] : 0;
        }

        private boolean has(int node) {
            return node >= 0 && node < size;
        }

        /** Grows the tree anew; false, and no tree, when it would be too big. */
        boolean grow() {
            there = false;
            size = 0;
            caught = 0;
            boolean roomy = addNode(0, match.allClauses(), 1 << WHOLE, 0);
            for (int node = 0; node < MOST_NODES && node < size && roomy; node++) {
                roomy = expand(node);
            }
            if (roomy) {
                markFailing();
                there = true;
            }
            return roomy;
        }

        private boolean addNode(int itsLabel, int itsLeft, int itsOpen, int testsAbove) {
            if (size >= MOST_NODES) {
                return false;
            }
            label[size] = itsLabel;
            left[size] = itsLeft;
            open[size] = itsOpen;
            above[size] = testsAbove;
            place[size] = NO_PLACE;
            testType[size] = NO_TYPE;
            clause[size] = NO_CLAUSE;
            firstBranch[size] = 0;
            branchCount[size] = 0;
            size++;
            return true;
        }

        /** Makes the node a leaf or a test; false when its branches find no room. */
        private boolean expand(int node) {
            place[node] = match.placeToTest(left[node], open[node]);
            if (place[node] == NO_PLACE) {
                makeLeaf(node);
                return true;
            }
            testType[node] = match.typeAskedAt(place[node], left[node]);
            firstBranch[node] = size;
            boolean roomy = testType[node] == INT ? addNumbers(node) : addConstructors(node);
            branchCount[node] = size - firstBranch[node];
            return roomy;
        }

        private void makeLeaf(int node) {
            clause[node] = match.firstOf(left[node]);
            if (clause[node] != NO_CLAUSE) {
                caught |= 1 << clause[node];
            }
        }

        private boolean addNumbers(int node) {
            boolean roomy = true;
            int still = open[node] & ~(1 << place[node]);
            long number = match.leastAbove(BELOW_ALL_NUMBERS, left[node], place[node]);
            for (int i = 0; i < MOST_CLAUSES && number != NO_NUMBER && roomy; i++) {
                int kept = match.notAskingElse(left[node], place[node], (int) number);
                roomy = addNode((int) number, kept, still, above[node] + 1);
                number = match.leastAbove(number, left[node], place[node]);
            }
            int others = match.notAsking(left[node], place[node]);
            return roomy && addNode(0, others, still, above[node] + 1);
        }

        private boolean addConstructors(int node) {
            boolean roomy = true;
            int still = open[node] & ~(1 << place[node]);
            for (int c = 0; c < declared.constructorCount() && roomy; c++) {
                if (declared.ownerOf(c) == testType[node]) {
                    int kept = match.notAskingElse(left[node], place[node], c);
                    int besides = declared.argumentPlaces(c, place[node]);
                    roomy = addNode(c, kept, still | besides, above[node] + 1);
                }
            }
            return roomy;
        }

        private void markFailing() {
            for (int node = size - 1; node >= 0; node--) {
                boolean leaf = place[node] == NO_PLACE;
                failing[node] = leaf ? clause[node] == NO_CLAUSE : failingBranch(node) != node;
            }
        }

        /** The first branch with a leaf FAIL; the node itself when it has no such branch. */
        int failingBranch(int node) {
            if (!has(node)) {
                return node;
            }
            for (int i = 0; i < branchCount[node]; i++) {
                if (failing[firstBranch[node] + i]) {
                    return firstBranch[node] + i;
                }
            }
            return node;
        }

        boolean hasFailing() {
            return size > 0 && failing[0];
        }

        int mostTests() {
            int most = 0;
            for (int node = 0; node < size; node++) {
                most = Math.max(most, above[node]);
            }
            return most;
        }

        int countKinds() {
            int count = 0;
            // Branches have greater numbers than their test, so theirs are known before its own.
            for (int node = size - 1; node >= 0; node--) {
                kind[node] = node;
                for (int other = size - 1; other > node && kind[node] == node; other--) {
                    if (kind[other] == other && alike(node, other)) {
                        kind[node] = other;
                    }
                }
                if (kind[node] == node) {
                    count++;
                }
            }
            return count;
        }

        private boolean alike(int node, int other) {
            boolean same = place[node] == place[other] && testType[node] == testType[other]
                && clause[node] == clause[other] && branchCount[node] == branchCount[other];
            for (int i = 0; i < branchCount[node] && same; i++) {
                int mine = firstBranch[node] + i;
                int its = firstBranch[other] + i;
                same = label[mine] == label[its] && kind[mine] == kind[its];
            }
            return same;
        }

        int leafFor(Values values, int v) {
            int node = 0;
            valueAt[WHOLE] = v;
            for (int i = 0; i < ASKED_PLACES && placeOf(node) != NO_PLACE; i++) {
                int tested = place[node];
                int value = valueAt[tested];
                valueAt[2 * tested] = values.firstOf(value);
                valueAt[2 * tested + 1] = values.secondOf(value);
                node = branchFor(node, values.symbolOf(value));
            }
            return node;
        }

        /** The last branch is for what no other takes: all other ints, or the last constructor. */
        private int branchFor(int node, int symbol) {
            int last = firstBranch[node] + branchCount[node] - 1;
            for (int branch = firstBranch[node]; branch < last; branch++) {
                if (label[branch] == symbol) {
                    return branch;
                }
            }
            return last;
        }

        int lastBranch(int node) {
            return has(node) ? firstBranch[node] + branchCount[node] - 1 : node;
        }

        /** The least number from 0 on that has no branch of its own at this test of INT. */
        int leastWithoutBranch(int node) {
            if (!has(node)) {
                return 0;
            }
            int last = lastBranch(node);
            int least = 0;
            for (int i = 0; i < MOST_CLAUSES && branchFor(node, least) != last; i++) {
                least++;
            }
            return least;
        }
    }

    /** The symbols of the witness. */
    private static final class Witness {
        private final Declarations declared;
        private final Tree tree;
        private final int[] kindAt = new int[ALL_PLACES];
        private final int[] symbolAt = new int[ALL_PLACES];
        private final int[] kind = new int[ALL_PLACES];
        private final int[] symbol = new int[ALL_PLACES];
        private int length = 0;

        Witness(Declarations declared, Tree tree) {
            this.declared = declared;
            this.tree = tree;
        }

        int length() {
            return length;
        }

        boolean has(int i) {
            return i >= 0 && i < length;
        }

        int kindOf(int i) {
            return has(i) ? kind[i] : ANYTHING;
        }

        int symbolOf(int i) {
            return has(i) ? symbol[i] : 0;
        }

        void readFromTree() {
            length = 0;
            if (tree.hasFailing()) {
                Arrays.fill(kindAt, ANYTHING);
                Arrays.fill(symbolAt, 0);
                followWayToFail();
                write(WHOLE);
            }
        }

        private void followWayToFail() {
            int node = 0;
            for (int i = 0; i < ASKED_PLACES && tree.placeOf(node) != NO_PLACE; i++) {
                int branch = tree.failingBranch(node);
                noteBranch(node, branch);
                node = branch;
            }
        }

        private void noteBranch(int node, int branch) {
            int place = tree.placeOf(node);
            boolean ofInt = tree.typeOfTest(node) == INT;
            boolean ofOtherInts = ofInt && branch == tree.lastBranch(node);
            kindAt[place] = ofInt ? A_NUMBER : A_CONSTRUCTOR;
            symbolAt[place] = ofOtherInts ? tree.leastWithoutBranch(node) : tree.labelOf(branch);
        }

        /** Appends the symbols of a place and of the places below it. */
        private void write(int place) {
            if (place >= ALL_PLACES || length >= ALL_PLACES) {
                return;
            }
            kind[length] = kindAt[place];
            symbol[length] = symbolAt[place];
            length++;
            if (kindAt[place] != A_CONSTRUCTOR) {
                return;
            }
            if (declared.firstTypeOf(symbolAt[place]) != ABSENT) {
                write(2 * place);
            }
            if (declared.secondTypeOf(symbolAt[place]) != ABSENT) {
                write(2 * place + 1);
            }
        }
    }
}
