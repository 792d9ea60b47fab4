/**
 * That of several refusals the one that is named first is answered, and that a refused call changes
 * nothing: all that can be asked of an object is answered as by one that never got the call.
 */
public final class ClauseMatrixRefusals {
    /**
     * Type 1 has the empty list (0) and an int with a list (1), type 2 a box of a list (2) and a pair
     * of boxes (3). The patterns 0 to 3 are ANY, 7, the empty list and the list of 7; 4 and 5 are lists
     * of depth 3 and 4; 6, 7, 8 are ints with two, four and eight alternatives, 9 is a box, 10 a list
     * with two alternatives. The values are 7, the empty list, the list of 7, and a box.
     */
    private static final String DECLARED = """
        type = 1; type = 2; constructor 1 -1 -1 = 0; constructor 1 0 1 = 1; constructor 2 1 -1 = 2; constructor 2 2 2 = 3
        any = 0; number 7 = 1; build 0 -1 -1 = 2; build 1 1 2 = 3; build 1 1 3 = 4; build 1 0 4 = 5
        either 1 0 = 6; either 6 6 = 7; either 7 7 = 8; build 2 0 -1 = 9; either 2 0 = 10
        valueNumber 7 = 0; valueOf 0 -1 -1 = 1; valueOf 1 0 1 = 2; valueOf 2 2 -1 = 3
        """;
    private static final String BEGUN = DECLARED + "begin 1 = 0\n";
    private static final String COMPILED = BEGUN + "row 4 = 0; row 3 = 1; row 5 = 2; compile; run 2 = 1; tests = 3\n";
    private static final String ROW_AFTER_IT = COMPILED + "row 10 = 3\n";
    private static final String EIGHT_ROWS = BEGUN + "row 3 = 0..6; row 2 = 7; compile = 7; run 2 = 0; tests = 3\n";
    private static final String SIXTEEN_CLAUSES = BEGUN + "either 10 10 = 11; either 11 11 = 12; row 12 = 0; row 12 = 1; compile = 3; run 2 = 0\n";
    /** All of them the empty list or the list of 7; pattern 16 is a list with two alternatives. */
    private static final String FIFTEEN_CLAUSES = BEGUN + """
        either 2 3 = 11; either 11 11 = 12; either 12 12 = 13; either 12 11 = 14; either 14 2 = 15; build 1 6 2 = 16
        row 13 = 0; row 15 = 1; compile = 7; run 2 = 0
        """;
    private static final String ALL_PATTERNS = COMPILED + "number 3 = 11..59\n";
    private static final String ALL_VALUES = COMPILED + "valueNumber 3 = 4..59\n";
    private static final String WITH_EMPTY_TYPE = DECLARED + "type = 3\n";
    private static final String FIVE_TYPES = DECLARED + "type = 3..5; constructor {3..5} -1 -1\n";
    private static final String FOUR_OF_ONE_TYPE = DECLARED + "constructor 1 0 -1 = 4; constructor 1 0 0 = 5\n";
    private static final String TWELVE_CONSTRUCTORS = DECLARED
        + "constructor 2 -1 -1 = 4; type = 3..5; constructor 3 -1 -1 = 5..8; constructor 4 -1 -1 = 9..10; constructor 5 -1 -1 = 11\n";
    /** Pairs of ints with rows for a tree of 61 parts; all its clauses are there, but not all its rows. */
    private static final String TOO_BIG = """
        type = 1; constructor 1 0 0 = 0; begin 1 = 0; any = 0; number # = 1..13
        either 1 2 = 14; either 14 3 = 15; either 15 4 = 16; either 16 5 = 17; either 17 6 = 18; either 18 7 = 19; either 19 8 = 20
        either 9 10 = 21; either 21 11 = 22; either 22 12 = 23; either 23 13 = 24
        build 0 20 1 = 25; build 0 24 1 = 26; number 100 = 27; build 0 0 27 = 28; number 200 = 29; build 0 29 0 = 30; build 0 1 2 = 31
        valueNumber 13 = 0; valueNumber 1 = 1; valueOf 0 0 1 = 2
        row 25 = 0; row 26 = 1; row 28 = 2; row 30 = 3; compile = 60; run 2 = 1; tests = 3; row 31 = 4
        """;

    private static final String[] WRONG_PATTERNS = {
        "build 4 -1 -1 = NOCONSTRUCTOR", "build -1 0 0 = NOCONSTRUCTOR", "build MAX 0 0 = NOCONSTRUCTOR",
        "build 0 0 -1 = NOPATTERN", "build 0 -1 0 = NOPATTERN", "build 1 -1 2 = NOPATTERN", "build 1 0 -1 = NOPATTERN",
        "build 2 0 0 = NOPATTERN", "build 1 60 0 = NOPATTERN", "build 1 0 MIN = NOPATTERN",
        "build 1 2 2 = ILLTYPED", "build 1 0 9 = ILLTYPED", "build 2 1 -1 = ILLTYPED",
        "build 1 0 5 = DEEP", "build 2 5 -1 = DEEP", "build 1 8 10 = MANY",
        "either 60 0 = NOPATTERN", "either 0 -1 = NOPATTERN", "either 1 2 = ILLTYPED", "either 9 3 = ILLTYPED",
        "either 8 0 = MANY", "either 6 8 = MANY",
    };
    private static final String[] WRONG_VALUES = {
        "valueOf 4 -1 -1 = NOCONSTRUCTOR", "valueOf MIN -1 -1 = NOCONSTRUCTOR",
        "valueOf 0 0 -1 = NOVALUE", "valueOf 0 -1 1 = NOVALUE", "valueOf 1 0 -1 = NOVALUE", "valueOf 1 60 1 = NOVALUE",
        "valueOf 2 1 1 = NOVALUE", "valueOf 1 1 1 = ILLTYPED", "valueOf 1 0 0 = ILLTYPED", "valueOf 2 3 -1 = ILLTYPED",
    };

    private ClauseMatrixRefusals() {
    }

    public static void main(String[] args) {
        firstOfTheDeclarations();
        firstOfBuild();
        firstOfBuildLimits();
        firstOfEither();
        firstOfRow();
        firstOfTheQuestions();
        firstOfValueOf();
        firstOfRun();
        declarationsChangeNothing();
        patternsAndValuesChangeNothing();
        fullChangesNothing();
        rowsChangeNothing();
        questionsChangeNothing();
        tooBigChangesTheTreeAlone();
        Script.finish();
    }

    private static void firstNamed(String promise, String order) {
        Script.says(promise, "When several refusals of a call hold, the one that is named first is answered: " + order);
    }

    private static void firstOfTheDeclarations() {
        firstNamed("promise 3", "CLOSED before FULL");
        Script.run(FIVE_TYPES, "type = FULL; begin 0 = 0; type = CLOSED");
        firstNamed("promise 4", "CLOSED before NOTYPE");
        Script.run(DECLARED, "constructor 3 -1 -1 = NOTYPE; begin 0 = 0; constructor {0|3|MIN|MAX} -1 -1 = CLOSED; constructor 1 {3|-2|MAX} 0 = CLOSED; constructor 1 -1 0 = CLOSED");
        firstNamed("promise 4", "CLOSED before FULL");
        Script.run(FOUR_OF_ONE_TYPE, "constructor 1 -1 -1 = FULL; begin 1 = 0; constructor 1 -1 -1 = CLOSED");
        Script.run(TWELVE_CONSTRUCTORS, "constructor 5 -1 -1 = FULL; begin 1 = 0; constructor 5 -1 -1 = CLOSED");
        firstNamed("promise 4", "NOTYPE before FULL");
        Script.run(FOUR_OF_ONE_TYPE, "constructor 1 -1 -1 = FULL; constructor 1 {3|-2|MIN|MAX} -1 = NOTYPE; constructor 1 0 {3|-2|MIN|MAX} = NOTYPE; constructor 1 -1 {0|1} = NOTYPE");
        Script.run(TWELVE_CONSTRUCTORS, "constructor 5 -1 -1 = FULL; constructor {0|6|-1|MIN|MAX} -1 -1 = NOTYPE; constructor 5 6 -1 = NOTYPE; constructor 5 -1 0 = NOTYPE");
        firstNamed("promise 5", "CLOSED before NOTYPE");
        Script.run(BEGUN, "begin {-1|3|MIN|MAX} = CLOSED");
        firstNamed("promise 5", "NOTYPE before EMPTY");
        Script.run(WITH_EMPTY_TYPE, "begin {0|1|2|3} = EMPTY; begin {-1|4|MIN|MAX} = NOTYPE");
    }

    private static void firstOfBuild() {
        firstNamed("promise 8", "NOCONSTRUCTOR before NOPATTERN");
        Script.run(DECLARED, "build {-1|4|MIN|MAX} {-1|60|MIN} {-1|60|MAX} = NOCONSTRUCTOR");
        firstNamed("promise 8", "NOCONSTRUCTOR before FULL");
        Script.run(ALL_PATTERNS, "build {-1|4|MIN|MAX} -1 -1 = NOCONSTRUCTOR; build 4 0 0 = NOCONSTRUCTOR; build 0 -1 -1 = FULL");
        firstNamed("promise 8", "NOPATTERN before ILLTYPED");
        Script.run(DECLARED, "build 1 2 2 = ILLTYPED; build 1 2 {-1|11|MIN|MAX} = NOPATTERN; build 1 0 1 = ILLTYPED; build 1 {-1|11|MIN|MAX} 1 = NOPATTERN; build 2 1 0 = NOPATTERN; build 2 1 -1 = ILLTYPED");
        firstNamed("promise 8", "NOPATTERN before DEEP");
        Script.run(DECLARED, "build 1 0 5 = DEEP; build 1 {-1|11|MIN|MAX} 5 = NOPATTERN; build 2 5 -1 = DEEP; build 2 5 {0|5|11|MIN|MAX} = NOPATTERN");
        firstNamed("promise 8", "NOPATTERN before MANY");
        Script.run(DECLARED, "build 1 8 10 = MANY; build 1 8 {-1|11|MIN|MAX} = NOPATTERN; build 1 {-1|11} 10 = NOPATTERN");
        firstNamed("promise 8", "NOPATTERN before FULL");
        Script.run(ALL_PATTERNS, "build 1 0 {-1|60|MAX} = NOPATTERN; build 0 0 -1 = NOPATTERN; build 0 -1 0 = NOPATTERN; build 2 60 -1 = NOPATTERN");
    }

    private static void firstOfBuildLimits() {
        firstNamed("promise 8", "ILLTYPED before DEEP");
        Script.run(DECLARED, "build 1 0 5 = DEEP; build 1 2 5 = ILLTYPED; build 1 5 0 = ILLTYPED; build 3 0 5 = ILLTYPED; build 3 5 0 = ILLTYPED");
        firstNamed("promise 8", "ILLTYPED before MANY");
        Script.run(DECLARED, "either 7 0 = 11; either 10 0 = 12; build 1 11 12 = MANY; build 1 12 11 = ILLTYPED; build 3 11 12 = ILLTYPED; build 1 8 8 = ILLTYPED");
        firstNamed("promise 8", "ILLTYPED before FULL");
        Script.run(ALL_PATTERNS, "build 1 0 0 = FULL; build 1 2 2 = ILLTYPED; build 1 0 9 = ILLTYPED; build 2 1 -1 = ILLTYPED");
        firstNamed("promise 8", "DEEP before MANY");
        Script.run(DECLARED, "build 1 8 10 = MANY; either 5 2 = 11; build 1 0 11 = DEEP; build 1 8 11 = DEEP");
        firstNamed("promise 8", "DEEP before FULL");
        Script.run(ALL_PATTERNS, "build 1 0 3 = FULL; build 1 0 5 = DEEP; build 2 5 -1 = DEEP");
        firstNamed("promise 8", "MANY before FULL");
        Script.run(ALL_PATTERNS, "build 1 7 10 = FULL; build 1 8 10 = MANY");
    }

    private static void firstOfEither() {
        firstNamed("promise 9", "NOPATTERN before ILLTYPED, MANY and FULL");
        Script.run(DECLARED, "either {-1|11|MIN|MAX} {-1|0|1|2|8|11|MIN|MAX} = NOPATTERN; either {0|1|2|8} {-1|11|MIN|MAX} = NOPATTERN");
        Script.run(ALL_PATTERNS, "either 0 0 = FULL; either {-1|60|MIN|MAX} {-1|0|8|59|60} = NOPATTERN; either {0|8|59} {-1|60|MIN|MAX} = NOPATTERN");
        firstNamed("promise 9", "ILLTYPED before MANY");
        Script.run(DECLARED, "either 8 1 = MANY; either 8 {2|3|9|10} = ILLTYPED; either {2|3|9|10} 8 = ILLTYPED");
        firstNamed("promise 9", "ILLTYPED before FULL");
        Script.run(ALL_PATTERNS, "either 1 1 = FULL; either 1 2 = ILLTYPED; either 2 1 = ILLTYPED; either 8 2 = ILLTYPED");
        firstNamed("promise 9", "MANY before FULL");
        Script.run(ALL_PATTERNS, "either 7 7 = FULL; either 8 0 = MANY; either 0 8 = MANY");
    }

    private static void firstOfRow() {
        firstNamed("promise 10", "NOMATCH before NOPATTERN");
        Script.run(DECLARED, "row {-1|11|60|MIN|MAX} = NOMATCH; row {0..10} = NOMATCH");
        firstNamed("promise 10", "NOPATTERN before FULL");
        Script.run(EIGHT_ROWS, "row 0 = FULL; row {-1|11|60|MIN|MAX} = NOPATTERN");
        Script.run(SIXTEEN_CLAUSES, "row 0 = FULL; row {-1|13|60|MIN|MAX} = NOPATTERN");
        firstNamed("promise 10", "ILLTYPED before FULL");
        Script.run(EIGHT_ROWS, "row 2 = FULL; row {1|6|7|8|9} = ILLTYPED");
        Script.run(SIXTEEN_CLAUSES, "row 2 = FULL; row {1|6|7|8|9} = ILLTYPED");
    }

    private static void firstOfTheQuestions() {
        firstNamed("promise 14", "NOTREE before NONE");
        Script.run(ROW_AFTER_IT, "useless {-1|0|3|4|MIN|MAX} = NOTREE; compile; useless {-1|4|MIN|MAX} = NONE");
        firstNamed("promise 16", "NOTREE before NONE");
        Script.run(COMPILED, "witnessKind 0 = 2; witnessKind {-1|32|MIN|MAX} = NONE; row 10 = 3; witnessKind {-1|0|32|MIN|MAX} = NOTREE");
    }

    private static void firstOfValueOf() {
        firstNamed("promise 19", "NOCONSTRUCTOR before NOVALUE");
        Script.run(DECLARED, "valueOf {-1|4|MIN|MAX} {-1|60|MIN} {-1|60|MAX} = NOCONSTRUCTOR");
        firstNamed("promise 19", "NOCONSTRUCTOR before FULL");
        Script.run(ALL_VALUES, "valueOf 0 -1 -1 = FULL; valueOf {-1|4|MIN|MAX} -1 -1 = NOCONSTRUCTOR");
        firstNamed("promise 19", "NOVALUE before ILLTYPED");
        Script.run(DECLARED, "valueOf 1 1 1 = ILLTYPED; valueOf 1 1 {-1|4|MIN|MAX} = NOVALUE; valueOf 1 0 0 = ILLTYPED; valueOf 1 {-1|4|MIN|MAX} 0 = NOVALUE; valueOf 2 0 -1 = ILLTYPED; valueOf 2 0 0 = NOVALUE");
        firstNamed("promise 19", "NOVALUE before FULL");
        Script.run(ALL_VALUES, "valueOf 1 0 {-1|60|MAX} = NOVALUE; valueOf 1 {-1|60|MIN} 1 = NOVALUE; valueOf 0 0 -1 = NOVALUE; valueOf 0 -1 0 = NOVALUE");
        firstNamed("promise 19", "ILLTYPED before FULL");
        Script.run(ALL_VALUES, "valueOf 1 0 1 = FULL; valueOf 1 1 1 = ILLTYPED; valueOf 1 0 0 = ILLTYPED; valueOf 2 0 -1 = ILLTYPED");
    }

    private static void firstOfRun() {
        firstNamed("promise 20", "NOTREE before NOVALUE");
        Script.run(DECLARED, "run {-1|4|60|MIN|MAX} = NOTREE; begin 1 = 0; run {-1|4|60|MIN|MAX} = NOTREE");
        Script.run(ROW_AFTER_IT, "run {-1|4|60|MIN|MAX} = NOTREE; compile; run {-1|4|60|MIN|MAX} = NOVALUE");
        firstNamed("promise 20", "NOTREE before ILLTYPED");
        Script.run(ROW_AFTER_IT, "run {0|3} = NOTREE; compile; run {0|3} = ILLTYPED");
    }

    /** Each refused call by itself, and all of them one after the other. */
    private static void changeNothing(String setUp, String... refused) {
        for (String call : refused) {
            Script.alike(setUp, setUp + call, Questions.all());
        }
        Script.alike(setUp, setUp + String.join("\n", refused), Questions.all());
    }

    private static void refusedChangesNothing(String promises) {
        Script.says(promises, "A call that answers one of the codes below FAIL changes nothing");
    }

    private static void declarationsChangeNothing() {
        refusedChangesNothing("promises 3 to 5");
        String[] wrongDeclarations = {
            "constructor 0 -1 -1 = NOTYPE", "constructor 6 -1 -1 = NOTYPE", "constructor MIN 0 0 = NOTYPE",
            "constructor 1 6 -1 = NOTYPE", "constructor 1 -2 -1 = NOTYPE", "constructor 1 0 6 = NOTYPE",
            "constructor 1 0 -2 = NOTYPE", "constructor 1 -1 0 = NOTYPE", "begin 6 = NOTYPE", "begin -1 = NOTYPE", "begin MAX = NOTYPE",
        };
        for (String setUp : new String[] {DECLARED, WITH_EMPTY_TYPE, FIVE_TYPES, FOUR_OF_ONE_TYPE, TWELVE_CONSTRUCTORS}) {
            changeNothing(setUp, wrongDeclarations);
        }
        changeNothing("", "constructor 1 -1 -1 = NOTYPE", "begin 1 = NOTYPE", "compile = NOMATCH", "row 0 = NOMATCH");
        changeNothing(WITH_EMPTY_TYPE, "begin 0 = EMPTY", "begin 1 = EMPTY", "begin 3 = EMPTY");
        changeNothing(FIVE_TYPES, "type = FULL");
        changeNothing(FOUR_OF_ONE_TYPE, "constructor 1 -1 -1 = FULL", "constructor 1 0 1 = FULL");
        changeNothing(TWELVE_CONSTRUCTORS, "type = FULL", "constructor 1 -1 -1 = FULL", "constructor 5 0 1 = FULL");
        for (String setUp : new String[] {BEGUN, COMPILED, ROW_AFTER_IT}) {
            changeNothing(setUp, "type = CLOSED", "constructor 1 -1 -1 = CLOSED", "constructor 1 0 0 = CLOSED", "begin 0 = CLOSED", "begin 2 = CLOSED", "begin 9 = CLOSED");
        }
    }

    private static void patternsAndValuesChangeNothing() {
        refusedChangesNothing("promises 8 and 9");
        for (String setUp : new String[] {DECLARED, COMPILED, ROW_AFTER_IT, ALL_PATTERNS}) {
            changeNothing(setUp, WRONG_PATTERNS);
        }
        refusedChangesNothing("promise 19");
        for (String setUp : new String[] {DECLARED, COMPILED, ROW_AFTER_IT, ALL_VALUES}) {
            changeNothing(setUp, WRONG_VALUES);
        }
    }

    private static void fullChangesNothing() {
        refusedChangesNothing("promises 6 to 9");
        changeNothing(ALL_PATTERNS, "any = FULL", "number 3 = FULL", "number MIN = FULL", "build 0 -1 -1 = FULL", "build 1 0 2 = FULL", "either 0 0 = FULL", "either 2 3 = FULL");
        refusedChangesNothing("promises 18 and 19");
        changeNothing(ALL_VALUES, "valueNumber 3 = FULL", "valueNumber MAX = FULL", "valueOf 0 -1 -1 = FULL", "valueOf 1 0 1 = FULL");
    }

    private static void rowsChangeNothing() {
        refusedChangesNothing("promise 10");
        changeNothing(DECLARED, "row 0 = NOMATCH", "row 3 = NOMATCH", "row 60 = NOMATCH", "compile = NOMATCH");
        changeNothing(COMPILED, "row 11 = NOPATTERN", "row -1 = NOPATTERN", "row MAX = NOPATTERN", "row 1 = ILLTYPED", "row 8 = ILLTYPED", "row 9 = ILLTYPED");
        changeNothing(EIGHT_ROWS, "row 0 = FULL", "row 10 = FULL", "row 5 = FULL", "row 11 = NOPATTERN", "row 1 = ILLTYPED");
        changeNothing(FIFTEEN_CLAUSES, "row 10 = FULL", "row 11 = FULL", "row 13 = FULL", "row 16 = FULL");
        changeNothing(SIXTEEN_CLAUSES, "row 0 = FULL", "row 2 = FULL", "row 3 = FULL", "row 5 = FULL", "row 12 = FULL", "row 13 = NOPATTERN", "row 1 = ILLTYPED");
    }

    private static void questionsChangeNothing() {
        refusedChangesNothing("promises 12 to 16 and 20");
        String[] withoutTree = {
            "kinds = NOTREE", "longest = NOTREE", "useless 0 = NOTREE", "witnessLength = NOTREE", "witnessKind 0 = NOTREE", "run 2 = NOTREE", "run 60 = NOTREE",
        };
        changeNothing(DECLARED, withoutTree);
        changeNothing(BEGUN, withoutTree);
        changeNothing(ROW_AFTER_IT, withoutTree);
        changeNothing(COMPILED, "useless -1 = NONE", "useless 3 = NONE", "useless MAX = NONE", "witnessKind -1 = NONE", "witnessKind 31 = NONE",
            "run 4 = NOVALUE", "run -1 = NOVALUE", "run MIN = NOVALUE", "run 0 = ILLTYPED", "run 3 = ILLTYPED");
        Script.says("promises 12 to 17", "Nothing is promised beyond the answers and state changes described above (a question changes nothing)");
        changeNothing(COMPILED, "kinds", "longest", "useless 0", "witnessLength", "witnessKind 0", "witness 0 = 0", "witness 9 = 0", "tests = 3", "compile");
    }

    private static void tooBigChangesTheTreeAlone() {
        Script.says("promise 11", "TOOBIG when the size would be more than 60: then there is no tree (this alone is changed).");
        changeNothing(TOO_BIG, "compile = TOOBIG", "compile = TOOBIG; compile = TOOBIG", "compile = TOOBIG; kinds = NOTREE; run 2 = NOTREE");
    }
}
