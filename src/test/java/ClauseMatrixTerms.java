/** For each sentence of the document's Terms that bounds or orders something, runs of its own. */
public final class ClauseMatrixTerms {
    /** Constructor 0 is the empty list, 1 is an int and a list. */
    private static final String LISTS = """
        type = 1; constructor 1 -1 -1 = 0; constructor 1 0 1 = 1; begin 1 = 0
        """;
    /** Constructor 0 is a node of two twigs, 1 is an end; so are the patterns 1 and 2, and 0 is ANY. */
    private static final String TWIGS = """
        type = 1; constructor 1 1 1 = 0; constructor 1 -1 -1 = 1; begin 1 = 0
        any = 0; build 0 0 0 = 1; build 1 -1 -1 = 2
        """;
    private static final String PAIRS_OF_INTS = """
        type = 1; constructor 1 0 0 = 0; begin 1 = 0; any = 0
        """;
    /**
     * A, B, C are the constructors 0, 1, 2, and a pair of two of them is constructor 3. The patterns
     * are ANY (0), A (1), B (2), C (3), and the values A (0), B (1), C (2).
     */
    private static final String PAIRS = """
        type = 1; constructor 1 -1 -1 = 0..2; type = 2; constructor 2 1 1 = 3; begin 2 = 0
        any = 0; build 0 -1 -1 = 1; build 1 -1 -1 = 2; build 2 -1 -1 = 3
        valueOf # -1 -1 = 0..2
        """;
    /** As PAIRS, but a pair of one of them and an int; the numbers 1, 5, 6 are the patterns 4, 5, 6. */
    private static final String PAIRS_WITH_INT = """
        type = 1; constructor 1 -1 -1 = 0..2; type = 2; constructor 2 1 0 = 3; begin 2 = 0
        any = 0; build 0 -1 -1 = 1; build 1 -1 -1 = 2; build 2 -1 -1 = 3; number 1 = 4; number 5 = 5; number 6 = 6
        """;
    /**
     * As PAIRS, but the match is over constructor 4, which has one of A, B, C at place 2 and the pair
     * at place 3, with its parts at the places 6 and 7.
     */
    private static final String PAIRS_WITH_TAG = """
        type = 1; constructor 1 -1 -1 = 0..2; type = 2; constructor 2 1 1 = 3; type = 3; constructor 3 1 2 = 4; begin 3 = 0
        any = 0; build 0 -1 -1 = 1; build 1 -1 -1 = 2; build 2 -1 -1 = 3
        valueOf # -1 -1 = 0..2
        """;

    private ClauseMatrixTerms() {
    }

    public static void main(String[] args) {
        types();
        constructors();
        patterns();
        whatPatternsFit();
        typesOfPatterns();
        depths();
        alternativesOfEither();
        alternativesOfBuild();
        clauses();
        places();
        leaves();
        mostAskedPlace();
        leastPlace();
        placeIsOpenNoMore();
        typeOfTest();
        branchesOfConstructors();
        branchesOfNumbers();
        orderOfNumbers();
        size();
        alikeLeaves();
        alikeTests();
        firstFail();
        witnessOfConstructors();
        witnessOfNumbers();
        leastNumberWithoutBranch();
        symbolsInOrder();
        noTree();
        Script.finish();
    }

    private static void types() {
        Script.says("terms", "0 is INT, whose values are the ints;");
        Script.run("begin 0 = 0; number 4 = 0; row 0 = 0; compile = 3; valueNumber 4 = 0; run 0 = 0; constructor 0 -1 -1 = CLOSED");
        Script.run("constructor 0 -1 -1 = NOTYPE; type = 1; constructor 0 -1 -1 = NOTYPE");
        Script.says("terms", "the OWN types 1, 2, .. (at most 5) have CONSTRUCTORS,");
        Script.run("type = 1; type = 2; type = 3; type = 4; type = 5; type = FULL; constructor {1..5} -1 -1; begin 5 = 0");
    }

    private static void constructors() {
        Script.says("terms", "which have numbers 0, 1, 2, .. in the order in which they were declared, over all types");
        Script.run("""
            type = 1; constructor 1 -1 -1 = 0; type = 2; constructor 2 0 -1 = 1; constructor 1 0 0 = 2; constructor 2 -1 -1 = 3
            any = 0; build 0 -1 -1 = 1; build 1 0 -1 = 2; build 2 0 0 = 3; build 3 -1 -1 = 4
            either 1 3 = 5; either 2 4 = 6; either 1 2 = ILLTYPED; either 3 4 = ILLTYPED
            """);
        Script.says("terms", "(at most 12 in all,");
        Script.run("type = 1..3; constructor 1 -1 -1 = 0..3; constructor 2 -1 -1 = 4..7; constructor 3 -1 -1 = 8..11\n"
            + "constructor {1|2|3} -1 -1 = FULL; type = 4; constructor 4 -1 -1 = FULL; begin 0 = EMPTY");
        Script.says("terms", "at most 4 of one type).");
        Script.run("type = 1..2; constructor 2 -1 -1 = 0..3; constructor 2 -1 -1 = FULL; constructor 1 -1 -1 = 4");
        Script.says("terms", "A constructor has no, one or two ARGUMENTS, each of some type.");
        Script.run("""
            type = 1; constructor 1 -1 -1 = 0; constructor 1 0 -1 = 1; constructor 1 1 -1 = 2; constructor 1 1 0 = 3
            valueNumber 2 = 0; valueOf 0 -1 -1 = 1; valueOf 1 0 -1 = 2; valueOf 2 1 -1 = 3; valueOf 3 1 0 = 4
            valueOf 1 1 -1 = ILLTYPED; valueOf 2 0 -1 = ILLTYPED; valueOf 3 0 1 = ILLTYPED
            """);
        Script.says("terms", "(Values are finite. A type may occur in its own constructors.)");
        Script.run("type = 1; constructor 1 1 1 = 0; constructor 1 1 -1 = 1; begin 1 = EMPTY; constructor 1 -1 -1 = 2; begin 1 = 0");
    }

    private static void patterns() {
        Script.says("terms", "PATTERNS have numbers 0, 1, 2, .., at most 60.");
        String mixed = LISTS + "any = 0..14; number 5 = 15..29; build 0 -1 -1 = 30..44; either 0 0 = 45..58\n";
        String noneMore = "any = FULL; number 5 = FULL; build 0 -1 -1 = FULL; build 1 15 30 = FULL; either 0 0 = FULL\n";
        Script.run(mixed, "any = 59\n", noneMore, "row 59 = 0; compile = 1");
        Script.run(mixed, "number 7 = 59\n", noneMore, "row 59 = ILLTYPED");
        Script.run(mixed, "build 1 15 30 = 59\n", noneMore, "row 59 = 0; compile = 7");
        Script.run(mixed, "either 30 44 = 59\n", noneMore, "row 59 = 0; compile = 3; useless 0 = 2");
    }

    private static void whatPatternsFit() {
        Script.says("terms", "ANY fits every value of every type.");
        Script.run("begin 0 = 0; any = 0; row 0 = 0; compile = 1; valueNumber MIN = 0; valueNumber MAX = 1; valueNumber 0 = 2; run {0|1|2} = 0");
        Script.run(LISTS, "any = 0; row 0 = 0; compile = 1; valueNumber 0 = 0; valueOf 0 -1 -1 = 1; valueOf 1 0 1 = 2; valueOf 1 0 2 = 3; run {1|2|3} = 0");
        Script.says("terms", "A NUMBER fits that int.");
        for (int v : new int[] {0, -1, 1, 255, 65535, Integer.MIN_VALUE, Integer.MAX_VALUE}) {
            Script.run("begin 0 = 0; number " + v + " = 0; row 0 = 0; compile = 3; valueNumber " + v + " = 0; run 0 = 0\n"
                + "valueNumber " + (v + 1) + " = 1; valueNumber " + (v - 1) + " = 2; valueNumber " + (v + 256) + " = 3\n"
                + "valueNumber " + (v + 65536) + " = 4; valueNumber " + (v ^ Integer.MIN_VALUE) + " = 5; run {1..5} = FAIL");
        }
        Script.says("terms", "it fits the values of that constructor whose arguments the patterns fit.");
        Script.run(PAIRS, """
            build 3 1 2 = 4; row 4 = 0; compile = 8
            valueOf 3 0 1 = 3; valueOf 3 1 0 = 4; valueOf 3 0 0 = 5; valueOf 3 1 1 = 6; valueOf 3 2 1 = 7
            run 3 = 0; run {4..7} = FAIL
            """);
        Script.says("terms", "EITHER is two patterns; it fits what one of them fits.");
        Script.run("""
            begin 0 = 0; number 1 = 0; number 2 = 1; either 0 1 = 2; row 2 = 0; compile = 4
            valueNumber # = 0..3; run 0 = FAIL; run 1 = 0; run 2 = 0; run 3 = FAIL
            """);
        Script.run("begin 0 = 0; number 1 = 0; any = 1; either 0 1 = 2; row 2 = 0; compile = 3; valueNumber # = 0..1; run {0|1} = 0");
    }

    private static void typesOfPatterns() {
        String before = """
            type = 1..2; constructor 1 -1 -1 = 0; constructor 2 -1 -1 = 1; begin 1 = 0
            any = 0; number 3 = 1; build 0 -1 -1 = 2; build 1 -1 -1 = 3
            """;
        Script.says("terms", "The type of ANY is open;");
        Script.run(before, "either 0 {1|2|3}; row 0 = 0");
        Script.says("terms", "of NUMBER it is INT;");
        Script.run(before, "either 1 1 = 4; either 1 {2|3} = ILLTYPED; row 1 = ILLTYPED");
        Script.says("terms", "of BUILD it is that of its constructor;");
        Script.run(before, "either 2 2 = 4; either 3 3 = 5; either 2 3 = ILLTYPED; row 2 = 0; row 3 = ILLTYPED");
        Script.says("terms", "of EITHER it is that of its first pattern,");
        Script.run(before, "either 2 0 = 4; either 2 2 = 5; either {4|5} {1|3} = ILLTYPED; row {4|5}; either 3 0 = 6; row 6 = ILLTYPED");
        Script.says("terms", "or when that is open, that of its second.");
        Script.run(before, "either 0 2 = 4; either 0 3 = 5; either 4 {1|3|5} = ILLTYPED; row 4 = 0; row 5 = ILLTYPED");
        Script.run(before, "either 0 0 = 4; either 4 0 = 5; row {4|5}; either 5 {1|2|3}; either 5 3 = 9; row 9 = ILLTYPED");
        Script.says("terms", "A pattern FITS A TYPE when its type is open or that one.");
        Script.run(before, "either 0 0 = 4; row 0 = 0; row 4 = 1; row 2 = 2; row {1|3} = ILLTYPED");
    }

    private static void depths() {
        String chain = """
            type = 1; constructor 1 0 -1 = 0; constructor 1 1 -1 = 1; constructor 1 -1 -1 = 2; constructor 1 0 1 = 3
            """;
        Script.says("terms", "The DEPTH of ANY and NUMBER is 1,");
        Script.run(chain, "any = 0; build 1 0 -1 = 1; build 1 1 -1 = 2; build 1 2 -1 = 3; build 1 3 -1 = DEEP");
        Script.run(chain, "number 4 = 0; build 0 0 -1 = 1; build 1 1 -1 = 2; build 1 2 -1 = 3; build 1 3 -1 = DEEP");
        Script.says("terms", "of BUILD 1 more than the greatest depth of its patterns");
        Script.run(chain, "any = 0; build 3 0 0 = 1; build 3 0 1 = 2; build 3 0 2 = 3; build 3 0 3 = DEEP; build 1 3 -1 = DEEP; build 1 2 -1 = 4");
        Script.run(TWIGS, "build 0 1 0 = 3; build 0 3 0 = 4; build 0 4 0 = DEEP; build 0 0 4 = DEEP; build 0 3 3 = 5; build 0 1 3 = 6");
        Script.says("terms", "(1 when there are none),");
        Script.run(chain, "build 2 -1 -1 = 0; build 1 0 -1 = 1; build 1 1 -1 = 2; build 1 2 -1 = 3; build 1 3 -1 = DEEP");
        Script.says("terms", "of EITHER the greatest of its two.");
        Script.run(chain, """
            any = 0; build 1 0 -1 = 1; build 1 1 -1 = 2; build 1 2 -1 = 3
            either 3 0 = 4; either 0 3 = 5; either 3 3 = 6; build 1 {4|5|6} -1 = DEEP
            either 2 0 = 7; either 0 2 = 8; either 2 2 = 9; build 1 7 -1 = 10; build 1 8 -1 = 11; build 1 9 -1 = 12
            either 7 7 = 13; either 13 8 = 14; build 1 14 -1 = 15; build 1 {10..12} -1 = DEEP
            """);
    }

    private static void alternativesOfEither() {
        Script.says("terms", "ANY and NUMBER have themselves alone;");
        Script.run("begin 0 = 0; number 3 = 0; any = 1; row 0 = 0; row 1 = 1; compile = 3; useless {0|1} = 0; row 0 = 2; row 1 = 3; compile = 3; useless {2|3} = 1");
        Script.says("terms", "EITHER has those of its first pattern and then those of its second;");
        String[] trees = {
            "either 0 1 = 4; either 2 3 = 5; either 4 5 = 6",
            "either 2 3 = 4; either 1 4 = 5; either 0 5 = 6",
            "either 0 1 = 4; either 4 2 = 5; either 5 3 = 6",
            "either 1 2 = 4; either 0 4 = 5; either 5 3 = 6",
        };
        for (String tree : trees) {
            for (int k = 0; k < 4; k++) {
                Script.run("begin 0 = 0; number # = 0..3", tree, "row " + k + " = 0; row 6 = 1; compile = 6; useless 1 = " + (1 << k));
            }
        }
        Script.run("begin 0 = 0; number 9 = 0; number 3 = 1; either 0 1 = 2; row 1 = 0; row 2 = 1; compile = 4; useless 1 = 2");
    }

    private static void alternativesOfBuild() {
        Script.says("terms", "BUILD has one for each choice of one alternative for each argument,");
        Script.run(PAIRS, "either 1 2 = 4; build 3 4 4 = 5; row 5 = 0; row 5 = 1; compile; useless 0 = 0; useless 1 = 15");
        Script.run(PAIRS, "build 3 1 1 = 4; row 4 = 0; row 4 = 1; compile = 8; useless 1 = 1");
        Script.says("terms", "in the order in which the choice for the last argument changes fastest.");
        for (int k = 0; k < 6; k++) {
            Script.run(PAIRS_WITH_INT, "either 1 2 = 7; either 7 3 = 8; either 4 5 = 9; build 3 8 9 = 10\n"
                + "build 3 " + (1 + k / 2) + " " + (4 + k % 2) + " = 11; row 11 = 0; row 10 = 1; compile; useless 1 = " + (1 << k));
            Script.run(PAIRS_WITH_INT, "either 1 2 = 7; either 4 5 = 8; either 8 6 = 9; build 3 7 9 = 10\n"
                + "build 3 " + (1 + k / 3) + " " + (4 + k % 3) + " = 11; row 11 = 0; row 10 = 1; compile; useless 1 = " + (1 << k));
        }
        // A node of (a node of two eithers) and an either: the outer second is the fastest one.
        for (int k = 0; k < 8; k++) {
            String inner = (1 + (k >> 2 & 1)) + " " + (1 + (k >> 1 & 1));
            Script.run(TWIGS, "either 1 2 = 3; build 0 3 3 = 4; build 0 4 3 = 5; build 0 " + inner + " = 6\n"
                + "build 0 6 " + (1 + (k & 1)) + " = 7; row 7 = 0; row 5 = 1; compile; useless 0 = 0; useless 1 = " + (1 << k));
        }
        Script.says("terms", "in the order in which the choice for the last argument changes fastest. (one argument alone)");
        for (int k = 0; k < 3; k++) {
            Script.run("type = 1; constructor 1 0 -1 = 0; begin 1 = 0; number # = 0..2; either 0 1 = 3; either 3 2 = 4; build 0 4 -1 = 5\n"
                + "build 0 " + k + " -1 = 6; row 6 = 0; row 5 = 1; compile = 6; useless 1 = " + (1 << k));
        }
    }

    private static void clauses() {
        Script.says("terms", "The CLAUSES of the match are all alternatives of row 0 in their order, then those of row 1, and so on.");
        Script.run("begin 0 = 0; number # = 0..2; either 0 1 = 3; either 1 2 = 4; row 3 = 0; row 4 = 1; compile = 5; useless 0 = 0; useless 1 = 1");
        Script.run("begin 0 = 0; number # = 0..2; either 0 1 = 3; either 1 2 = 4; row 4 = 0; row 3 = 1; compile = 5; useless 0 = 0; useless 1 = 2");
        Script.says("terms", "The first clause that fits a value catches it;");
        Script.run("begin 0 = 0; number 4 = 0; any = 1; row 0 = 0; row 1 = 1; row 0 = 2; compile = 3; valueNumber 4 = 0; valueNumber 5 = 1; run 0 = 0; run 1 = 1");
        Script.run("begin 0 = 0; number 4 = 0; any = 1; row 1 = 0; row 0 = 1; compile = 1; valueNumber 4 = 0; run 0 = 0");
        Script.says("terms", "the row of that clause is what the value gives, or FAIL when no clause fits.");
        Script.run("""
            begin 0 = 0; number # = 0..3; either 0 1 = 4; either 4 2 = 5; row 5 = 0; row 3 = 1; compile = 6
            valueNumber # = 0..4; run {0|1|2} = 0; run 3 = 1; run 4 = FAIL
            """);
    }

    private static void places() {
        Script.says("terms", "the first one is at place 2 i, the second one at place 2 i + 1.");
        // Asked at 1, 2, 3 and 4, so that 3 is tested before 4 though 4 lies below 2.
        Script.run(TWIGS, """
            build 0 2 0 = 3; build 0 3 2 = 4; row 4 = 0; compile = 9
            valueOf 1 -1 -1 = 0; valueOf 0 0 0 = 1; valueOf 0 1 0 = 2; valueOf 0 1 1 = 3; valueOf 0 2 0 = 4; valueOf 0 2 1 = 5
            run 2 = 0; tests = 4; run {3|5} = FAIL; tests = 3; run 4 = FAIL; tests = 4; run 1 = FAIL; tests = 2
            """);
        // Asked at 1, 2, 3, 5 and 6: the 5 before the 6.
        Script.run(TWIGS, """
            build 0 0 2 = 3; build 0 2 0 = 4; build 0 3 4 = 5; row 5 = 0; compile = 11
            valueOf 1 -1 -1 = 0; valueOf 0 0 0 = 1; valueOf 0 1 0 = 2; valueOf 0 0 1 = 3
            valueOf 0 1 1 = 4; run 4 = 0; tests = 5; valueOf 0 2 3 = 5; run 5 = 0; tests = 5
            valueOf 0 3 1 = 6; run 6 = FAIL; tests = 4; valueOf 0 1 2 = 7; run 7 = FAIL; tests = 5
            """);
        Script.says("terms", "A clause ASKS at place i when it has, at that place, a NUMBER or a BUILD.");
        Script.run(TWIGS, "row 0 = 0; compile = 1; longest = 0");
        Script.run(TWIGS, "row 1 = 0; compile = 3; longest = 1");
        Script.run(LISTS, "any = 0; number 1 = 1; build 1 0 0 = 2; build 1 1 0 = 3; row 2 = 0; compile = 3; longest = 1; row 3 = 1; compile = 3");
        Script.run(LISTS, "any = 0; number 1 = 1; build 1 1 0 = 2; row 2 = 0; compile = 5; longest = 2");
    }

    private static void leaves() {
        Script.says("terms", "When no clause is left, the tree is a leaf FAIL.");
        Script.run("begin 0 = 0; compile = 1; kinds = 1; longest = 0; witnessLength = 1; valueNumber 0 = 0; run 0 = FAIL; tests = 0");
        Script.run(TWIGS, "row 2 = 0; compile = 3; valueOf 1 -1 -1 = 0; valueOf 0 0 0 = 1; run 0 = 0; run 1 = FAIL; tests = 1");
        Script.says("terms", "When the first clause that is left asks at no open place, it is a leaf with that clause.");
        Script.run(TWIGS, "row 0 = 0; row 1 = 1; row 2 = 2; compile = 1; useless 0 = 0; useless {1|2} = 1");
        Script.run(TWIGS, "row 1 = 0; build 0 2 2 = 3; row 3 = 1; compile = 3; useless 1 = 1; valueOf 1 -1 -1 = 0; valueOf 0 0 0 = 1; run 1 = 0; tests = 1");
        Script.run(PAIRS, "build 3 1 0 = 4; build 3 2 2 = 5; row 4 = 0; row 0 = 1; row 5 = 2; compile = 5; useless {0|1} = 0; useless 2 = 1");
    }

    private static void mostAskedPlace() {
        Script.says("terms", "of the open places at which the first clause left asks,");
        Script.run(PAIRS, """
            build 3 0 1 = 4; build 3 1 0 = 5; row 4 = 0; row 5 = 1; row 5 = 2; row 5 = 3; compile = 11
            valueOf 3 1 0 = 3; run 3 = 0; tests = 2; valueOf 3 0 1 = 4; run 4 = 1; tests = 3
            """);
        Script.says("terms", "the one at which the most of the clauses left ask;");
        Script.run(PAIRS, """
            build 3 1 1 = 4; build 3 0 2 = 5; row 4 = 0; row 5 = 1; compile = 8
            valueOf 3 0 1 = 3; run 3 = 1; tests = 2; valueOf 3 1 0 = 4; run 4 = FAIL; tests = 3
            """);
        // Clauses which ask for something else at the place count as well as those which ask for the same.
        Script.run(PAIRS, """
            build 3 1 1 = 4; build 3 1 0 = 5; build 3 0 2 = 6; build 3 0 3 = 7; row 4 = 0; row 5 = 1; row 6 = 2; row 7 = 3
            compile = 14; valueOf 3 1 1 = 3; run 3 = 2; tests = 3
            """);
        Script.says("terms", "the one at which the most of the clauses left ask; (of those left, not of all)");
        Script.run(PAIRS_WITH_TAG, """
            build 3 1 1 = 4; build 3 0 2 = 5; build 3 2 0 = 6; build 4 1 4 = 7; build 4 1 5 = 8; build 4 2 6 = 9
            row 7 = 0; row 8 = 1; row 9 = 2; row 9 = 3; row 9 = 4; compile = 16
            valueOf 3 1 1 = 3; valueOf 4 0 3 = 4; run 4 = 1; tests = 4; valueOf 3 0 0 = 5; valueOf 4 0 5 = 6; run 6 = 0; tests = 5
            """);
        Script.says("terms", "the one at which the most of the clauses left ask; (a greater place too)");
        Script.run(TWIGS, """
            build 0 2 0 = 3; build 0 3 2 = 4; build 0 1 0 = 5; build 0 5 0 = 6; row 4 = 0; row 6 = 1; compile = 9
            valueOf 1 -1 -1 = 0; valueOf 0 0 0 = 1; valueOf 0 1 0 = 2; valueOf 0 2 1 = 3
            run 3 = 1; tests = 3; run 2 = 0; tests = 4
            """);
    }

    private static void leastPlace() {
        Script.says("terms", "of several such, the one with the least number.");
        Script.run(PAIRS, """
            build 3 1 1 = 4; row 4 = 0; compile = 8; valueOf 3 1 0 = 3; run 3 = FAIL; tests = 2; valueOf 3 0 1 = 4; run 4 = FAIL; tests = 3
            """);
        Script.run(PAIRS, """
            build 3 1 2 = 4; build 3 2 1 = 5; row 4 = 0; row 5 = 1; compile = 11
            valueOf 3 2 0 = 3; run 3 = FAIL; tests = 2; valueOf 3 0 2 = 4; run 4 = FAIL; tests = 3
            """);
        // The places 6 and 7 are both asked at twice, the places 2 and 3 once more.
        Script.run(PAIRS_WITH_TAG, """
            build 3 1 1 = 4; build 3 2 2 = 5; build 4 0 4 = 6; build 4 0 5 = 7; row 6 = 0; row 7 = 1; compile = 12
            valueOf 3 2 0 = 3; valueOf 4 0 3 = 4; run 4 = FAIL; tests = 3; valueOf 3 0 2 = 5; valueOf 4 0 5 = 6; run 6 = FAIL; tests = 4
            """);
        // Place 2 and place 3 are asked at by one clause each; the first clause left asks at place 3 alone.
        Script.run(PAIRS, "build 3 0 1 = 4; build 3 1 0 = 5; row 4 = 0; row 5 = 1; compile = 11; valueOf 3 1 0 = 3; run 3 = 0; tests = 2");
    }

    private static void placeIsOpenNoMore() {
        Script.says("terms", "The place is open no more.");
        Script.run("begin 0 = 0; number 5 = 0; number 6 = 1; row 0 = 0; row 0 = 1; row 1 = 2; compile = 4; longest = 1; useless 1 = 1");
        Script.run(TWIGS, "row 1 = 0; row 1 = 1; row 2 = 2; compile = 3; longest = 1");
        Script.run(PAIRS, "build 3 1 1 = 4; build 3 1 2 = 5; build 3 1 3 = 6; row 4 = 0; row 5 = 1; row 6 = 2; row 4 = 3; compile = 8; longest = 3; useless 3 = 1");
    }

    private static void noTree() {
        Script.says("terms", "There is no tree: compile was not called,");
        String asked = "kinds = NOTREE; longest = NOTREE; useless 0 = NOTREE; witnessLength = NOTREE; witnessKind 0 = NOTREE; witness 0 = 0; run 0 = NOTREE\n";
        String rows = TWIGS + "valueOf 1 -1 -1 = 0; row 1 = 0\n";
        Script.run(rows, asked);
        Script.says("terms", "or failed,");
        // Each of the eight rows asks at one way of its own down to the places 8 to 15.
        Script.run(TWIGS, "valueOf 1 -1 -1 = 0; build 0 2 0 = 3; build 0 0 2 = 4; build 0 3 0 = 5; build 0 0 3 = 6; build 0 4 0 = 7; build 0 0 4 = 8\n"
            + "build 0 {5..8} 0; build 0 0 {5..8}; row {9..16}; compile = TOOBIG\n", asked);
        Script.says("terms", "or a row came after it.");
        Script.run(rows, "compile = 3; kinds = 3; row 1 = 1\n", asked, "compile = 3; kinds = 3; row 0 = 2\n", asked);
        Script.says("terms", "There is no tree: compile was not called, or failed, or a row came after it. (it stays when something else came)");
        Script.run(rows, """
            compile = 3; any = 3; number 4 = 4; build 0 0 0 = 5; either 1 2 = 6; valueNumber 4 = 1; valueOf 0 0 0 = 2; kinds = 3; longest = 1
            useless 0 = 0; witnessLength = 1; witnessKind 0 = 2; witness 0 = 1; run 0 = FAIL; run 2 = 0; tests = 1
            type = CLOSED; begin 1 = CLOSED; row 9 = NOPATTERN; kinds = 3; compile = 3; kinds = 3
            """);
    }

    private static void typeOfTest() {
        Script.says("terms", "All clauses left that ask there do so for one type, the type of the test.");
        // Place 2 is of type 2 below constructor 0, and of INT below constructor 1.
        String before = """
            type = 1..2; constructor 1 2 -1 = 0; constructor 1 0 -1 = 1; constructor 2 -1 -1 = 2; constructor 2 -1 -1 = 3; begin 1 = 0
            number 3 = 0; build 3 -1 -1 = 1; build 0 1 -1 = 2; build 1 0 -1 = 3
            valueNumber 3 = 0; valueNumber 2 = 1; valueOf 3 -1 -1 = 2; valueOf 2 -1 -1 = 3
            valueOf 1 0 -1 = 4; valueOf 1 1 -1 = 5; valueOf 0 2 -1 = 6; valueOf 0 3 -1 = 7
            """;
        Script.run(before, "row 2 = 0; row 3 = 1; compile = 7; kinds = 6; run 4 = 1; run 5 = FAIL; run 6 = 0; run 7 = FAIL\n"
            + "witnessLength = 2; witness 0 = 0; witnessKind 1 = 2; witness 1 = 2");
        Script.run(before, "row 3 = 0; row 2 = 1; compile = 7; kinds = 6; run 4 = 0; run 5 = FAIL; run 6 = 1; run 7 = FAIL\n"
            + "witnessLength = 2; witness 0 = 0; witnessKind 1 = 2; witness 1 = 2");
    }

    private static void branchesOfConstructors() {
        Script.says("terms", "A test of an own type has one branch for each constructor of the type,");
        for (int n = 1; n <= 4; n++) {
            Script.run("type = 1..2; constructor 2 -1 -1 = 0; constructor 1 -1 -1 = 1.." + n + "; constructor 2 -1 -1 = " + (n + 1) + "; begin 1 = 0\n"
                + "build 1 -1 -1 = 0; row 0 = 0; compile = " + (n + 1) + "; kinds = " + (n == 1 ? 2 : 3));
        }
        Script.says("terms", "in the order of their numbers:");
        String mixed = """
            type = 1..2; constructor 2 -1 -1 = 0; constructor 1 -1 -1 = 1; constructor 2 -1 -1 = 2; constructor 1 -1 -1 = 3
            constructor 1 -1 -1 = 4; begin 1 = 0; build 4 -1 -1 = 0; build 1 -1 -1 = 1; build 3 -1 -1 = 2
            """;
        Script.run(mixed, "row 0 = 0; compile = 4; witness 0 = 1; row 1 = 1; compile = 4; witness 0 = 3; row 2 = 2; compile = 4; witnessLength = 0");
        Script.run(mixed, "row 2 = 0; compile = 4; witness 0 = 1; row 1 = 1; compile = 4; witness 0 = 4; witnessLength = 1");
        Script.says("terms", "a tree grown from those clauses left that ask at the place for that constructor, or do not ask there;");
        Script.run(PAIRS, """
            build 3 1 1 = 4; build 3 0 2 = 5; build 3 2 0 = 6; row 4 = 0; row 5 = 1; row 6 = 2; row 0 = 3; compile = 14
            valueOf 3 1 1 = 3; run 3 = 1; valueOf 3 1 0 = 4; run 4 = 2; valueOf 3 0 0 = 5; run 5 = 0; valueOf 3 2 2 = 6; run 6 = 3
            """);
        Script.says("terms", "the places of the constructor's arguments are open besides.");
        Script.run("""
            type = 1; constructor 1 -1 -1 = 0; constructor 1 0 -1 = 1; constructor 1 1 0 = 2; begin 1 = 0; any = 0; number 5 = 1
            build 1 1 -1 = 2; build 2 2 1 = 3; row 3 = 0; compile = 11; longest = 4
            """);
    }

    private static void branchesOfNumbers() {
        Script.says("terms", "A test of INT has one branch for each number that some clause left asks for at the place,");
        Script.run("begin 0 = 0; number 5 = 0; number 5 = 1; number -5 = 2; row 0 = 0; row 1 = 1; row 2 = 2; row 0 = 3; compile = 4; kinds = 4");
        Script.run(PAIRS_WITH_INT, """
            build 3 1 4 = 7; build 3 2 5 = 8; row 7 = 0; row 8 = 1; compile = 9; kinds = 7; longest = 3
            """);
        Script.says("terms", "grown from those clauses left that ask for that number there or do not ask there;");
        Script.run(PAIRS_OF_INTS, """
            number 5 = 1; number 6 = 2; build 0 1 1 = 3; build 0 0 2 = 4; build 0 2 0 = 5; row 3 = 0; row 4 = 1; row 5 = 2; compile = 12
            valueNumber # = 0..6; valueOf 0 5 5 = 7; valueOf 0 5 6 = 8; valueOf 0 6 6 = 9; valueOf 0 6 5 = 10; valueOf 0 1 6 = 11; valueOf 0 1 5 = 12
            run 7 = 0; run 8 = 1; run 9 = 1; run 10 = 2; run 11 = 1; run 12 = FAIL
            """);
        Script.says("terms", "and then a last branch, grown from those that do not ask there.");
        Script.run("begin 0 = 0; number 5 = 0; any = 1; row 0 = 0; row 1 = 1; compile = 3; witnessLength = 0; valueNumber 6 = 0; run 0 = 1");
        Script.run("begin 0 = 0; number 5 = 0; row 0 = 0; compile = 3; witnessLength = 1; valueNumber 6 = 0; run 0 = FAIL");
        Script.run("begin 0 = 0; number MIN = 0; number MAX = 1; row 1 = 0; row 0 = 1; compile = 4; witness 0 = 0");
    }

    /** The first FAIL lies below the least number that is followed by 1 alone; then below the next. */
    private static void orderOfNumbers() {
        Script.says("terms", "in increasing order,");
        int[] numbers = {Integer.MIN_VALUE, Integer.MIN_VALUE + 1, -2, -1, 0, 1, Integer.MAX_VALUE};
        int[] shuffled = {4, 6, 1, 3, 0, 5, 2};
        StringBuilder run = new StringBuilder(PAIRS_OF_INTS);
        for (int i = 0; i < 7; i++) {
            run.append("number ").append(numbers[i]).append(" = ").append(i + 1).append('\n');
        }
        run.append("either 1 2 = 8; either 8 3 = 9; either 9 4 = 10\n");
        int either = 1 + shuffled[0];
        int made = 11;
        for (int i = 1; i < 7; i++) {
            run.append("either ").append(either).append(' ').append(1 + shuffled[i]).append(" = ").append(made).append('\n');
            either = made;
            made++;
        }
        run.append("build 0 ").append(either).append(" 6 = ").append(made).append("; row ").append(made).append(" = 0\n");
        for (int i = 0; i < 7; i++) {
            run.append("compile; witnessKind 1 = 1; witness 1 = ").append(numbers[i]).append("; witness 2 = 0\n");
            made++;
            run.append("build 0 ").append(i + 1).append(" 0 = ").append(made).append("; row ").append(made).append(" = ").append(i + 1).append('\n');
        }
        run.append("compile; witnessKind 1 = 1; witness 1 = 2; witnessKind 2 = 0\n");
        Script.run(run.toString());
    }

    private static void size() {
        Script.says("terms", "The SIZE of the tree is the number of its leaves and tests, each counted as often as it stands in the tree.");
        Script.run(PAIRS_WITH_INT, "build 3 1 0 = 7; build 3 0 4 = 8; row 7 = 0; row 8 = 1; compile = 9; kinds = 6");
        Script.run(PAIRS, "build 3 1 1 = 4; row 4 = 0; compile = 8; kinds = 5; row 0 = 1; compile = 8; kinds = 5");
    }

    private static void alikeLeaves() {
        Script.says("terms", "Two trees are ALIKE when both are FAIL,");
        Script.run("type = 1; constructor 1 -1 -1 = 0..3; begin 1 = 0; build 0 -1 -1 = 0; row 0 = 0; compile = 5; kinds = 3");
        Script.says("terms", "or both are leaves with the same clause,");
        Script.run("type = 1; constructor 1 -1 -1 = 0..3; begin 1 = 0; build 0 -1 -1 = 0; any = 1; row 0 = 0; row 1 = 1; compile = 5; kinds = 3");
        Script.run("begin 0 = 0; number # = 0..3; either 0 1 = 4; either 4 2 = 5; either 5 3 = 6; row 6 = 0; compile = 6; kinds = 6");
        Script.run("type = 1; constructor 1 -1 -1 = 0..1; begin 1 = 0; build 0 -1 -1 = 0; build 1 -1 -1 = 1; either 0 1 = 2; row 2 = 0; compile = 3; kinds = 3");
    }

    private static void alikeTests() {
        Script.says("terms", "or both are tests at the same place,");
        // test 7 with leaves 1, FAIL, FAIL stands below A, test 6 with the same leaves below B.
        Script.run(PAIRS_WITH_TAG, """
            build 3 1 1 = 4; build 3 2 0 = 5; build 3 0 2 = 6
            build 4 3 0 = 7; build 4 0 4 = 8; build 4 1 5 = 9; build 4 2 6 = 10
            row 7 = 0; row 8 = 1; row 9 = 2; row 10 = 3; compile = 19; kinds = 13
            """);
        Script.says("terms", "with the same numbers when that is INT,");
        for (int second = 5; second <= 6; second++) {
            Script.run(PAIRS_WITH_INT, "build 3 3 0 = 7; build 3 0 4 = 8; build 3 1 5 = 9; build 3 2 " + second + " = 10\n"
                + "row 7 = 0; row 8 = 1; row 0 = 2; row 9 = 3; row 10 = 4; compile = 11; kinds = " + (second == 5 ? 6 : 7));
        }
        // Below A the numbers are 1 and 5, below B 1 alone.
        Script.run(PAIRS_WITH_INT, """
            build 3 3 0 = 7; build 3 0 4 = 8; build 3 1 5 = 9; row 7 = 0; row 8 = 1; row 0 = 2; row 9 = 3; compile = 10; kinds = 7
            """);
        Script.says("terms", "and with branches that are alike in their order.");
        // Below A and B two tests of place 3 are alike; then a row makes one branch of them differ.
        String alike = PAIRS + "build 3 3 0 = 4; build 3 0 2 = 5; row 4 = 0; row 5 = 1; compile = 11; kinds = 6\n";
        Script.run(alike, "build 3 2 1 = 6; row 6 = 2; compile = 11; kinds = 8");
        Script.run(alike, "build 3 2 3 = 6; row 6 = 2; compile = 11; kinds = 8");
        Script.run(alike, "build 3 0 3 = 6; row 6 = 2; compile = 11; kinds = 7");
    }

    private static void firstFail() {
        Script.says("terms", "take the first one (of two branches of a test the earlier one comes before the later one).");
        // The first FAIL lies deeper than the second one.
        Script.run(TWIGS, """
            build 0 2 0 = 3; row 3 = 0; compile = 5
            witnessLength = 5; witness 0 = 0; witnessKind 1 = 2; witness 1 = 0; witnessKind {2|3|4} = 0
            row 1 = 1; compile = 5; witnessLength = 1; witnessKind 0 = 2; witness 0 = 1
            """);
        Script.run(PAIRS_OF_INTS, """
            number 3 = 1; build 0 1 1 = 2; row 2 = 0; compile = 6
            witnessLength = 3; witnessKind {1|2} = 1; witness 1 = 3; witness 2 = 0
            """);
        Script.says("terms", "THE WITNESS is there when the tree has a leaf FAIL:");
        Script.run(TWIGS, "row 1 = 0; row 2 = 1; compile = 3; witnessLength = 0; witnessKind 0 = NONE; witness 0 = 0");
        Script.run(TWIGS, "row 1 = 0; compile = 3; witnessLength = 1; witnessKind 0 = 2; witness 0 = 1");
    }

    private static void witnessOfConstructors() {
        Script.says("terms", "followed by the witness at the places of its arguments, in order;");
        Script.run("""
            type = 1; constructor 1 -1 -1 = 0; constructor 1 0 -1 = 1; constructor 1 1 0 = 2; begin 1 = 0; any = 0
            build 0 -1 -1 = 1; build 1 0 -1 = 2; number 0 = 3; build 2 0 3 = 4
            row 1 = 0; compile = 4; witnessLength = 2; witness 0 = 1; witnessKind 1 = 0
            row 2 = 1; compile = 4; witnessLength = 3; witness 0 = 2; witnessKind {1|2} = 0
            row 4 = 2; compile = 6; witnessLength = 3; witness 0 = 2; witnessKind 1 = 0; witnessKind 2 = 1; witness 2 = 1
            """);
        Script.says("terms", "and ANYTHING when the place was not tested.");
        Script.run("begin 0 = 0; compile = 1; witnessLength = 1; witnessKind 0 = 0; witness 0 = 0");
        // The second place is tested elsewhere in the tree, but not on the way.
        Script.run(PAIRS, """
            build 3 1 0 = 4; build 3 3 3 = 5; row 4 = 0; row 5 = 1; compile = 8
            witnessLength = 3; witness 0 = 3; witnessKind 1 = 2; witness 1 = 1; witnessKind 2 = 0; witness 2 = 0
            """);
    }

    private static void witnessOfNumbers() {
        Script.says("terms", "a number, when the place was tested and of INT: that of the branch,");
        for (String v : new String[] {"MIN", "-15", "-1", "0", "1", "MAX"}) {
            Script.run(PAIRS_OF_INTS, "number " + v + " = 1; build 0 1 1 = 2; row 2 = 0; compile = 6; witnessLength = 3\n"
                + "witnessKind {1|2} = 1; witness 1 = " + v + "; witness 2 = " + (v.equals("0") ? 1 : 0));
        }
    }

    private static void leastNumberWithoutBranch() {
        Script.says("terms", "or for the last branch the least number from 0 on that has no branch there;");
        String[][] cases = {
            {"0", "1"}, {"1", "0"}, {"-1", "0"}, {"MIN", "0"}, {"MAX", "0"}, {"0 1", "2"}, {"1 0", "2"}, {"0 2", "1"},
            {"1 2", "0"}, {"-1 0", "1"}, {"-1 -2", "0"}, {"MIN MAX", "0"}, {"MAX 0 MIN", "1"}, {"3 1 0", "2"},
            {"2 1 0 -1", "3"}, {"0 0 0", "1"}, {"7 6 5 4 3 2 1 0", "8"}, {"0 1 2 3 4 5 6 8", "7"}, {"8 7 6 5 4 3 2 1", "0"},
        };
        for (String[] one : cases) {
            String[] numbers = one[0].split(" ");
            StringBuilder run = new StringBuilder("begin 0 = 0\n");
            for (int i = 0; i < numbers.length; i++) {
                run.append("number ").append(numbers[i]).append(" = ").append(i).append("; row ").append(i).append(" = ").append(i).append('\n');
            }
            Script.run(run.toString(), "compile; witnessLength = 1; witnessKind 0 = 1; witness 0 = " + one[1]);
        }
        Script.run("begin 0 = 0; number # = 0..15; either 0 1 = 16; either 2 3 = 17; either 4 5 = 18; either 6 7 = 19; either 8 9 = 20\n"
            + "either 10 11 = 21; either 12 13 = 22; either 14 15 = 23; row {16..23}; compile = 18; witness 0 = 16");
        Script.says("terms", "that has no branch there; (a number that is asked for elsewhere alone has none there)");
        Script.run(PAIRS_WITH_INT, """
            number 0 = 7; build 3 2 7 = 8; build 3 1 4 = 9; row 8 = 0; row 9 = 1; compile = 9
            witnessLength = 3; witnessKind 1 = 2; witness 1 = 0; witnessKind 2 = 1; witness 2 = 0
            """);
    }

    private static void symbolsInOrder() {
        Script.says("terms", "Its SYMBOLS are these constructors, numbers and ANYTHINGs, numbered from 0, beginning at place 1.");
        Script.run("""
            type = 1..2; constructor 1 -1 -1 = 0; constructor 1 0 -1 = 1; constructor 2 1 2 = 2; constructor 2 0 -1 = 3; begin 2 = 0
            any = 0; number 4 = 1; build 0 -1 -1 = 2; build 3 1 -1 = 3; build 3 0 -1 = 4; number 5 = 5; build 2 2 0 = 6
            build 1 1 -1 = 7; build 2 7 3 = 8; build 1 5 -1 = 9; build 2 9 0 = 10
            row 6 = 0; row 8 = 1; row 10 = 2; row 4 = 3; compile = 12
            witnessLength = 6; witnessKind 0 = 2; witness 0 = 2; witnessKind 1 = 2; witness 1 = 1
            witnessKind 2 = 1; witness 2 = 4; witnessKind 3 = 2; witness 3 = 2; witnessKind {4|5} = 0; witness {4|5} = 0
            """);
    }
}
