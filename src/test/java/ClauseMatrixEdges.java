/**
 * For each sentence of the promises that names a boundary case, runs of calls of its own: the last
 * call that is taken and the first that is refused, and the least and the greatest int.
 */
public final class ClauseMatrixEdges {
    /** Constructor 0 is the empty list, 1 is an int and a list. */
    private static final String LISTS = """
        type = 1; constructor 1 -1 -1 = 0; constructor 1 0 1 = 1; begin 1 = 0
        """;
    /** Constructor 0 is a node of two twigs, 1 is an end. */
    private static final String TWIGS = """
        type = 1; constructor 1 1 1 = 0; constructor 1 -1 -1 = 1; begin 1 = 0
        """;
    private static final String PAIRS_OF_INTS = """
        type = 1; constructor 1 0 0 = 0; begin 1 = 0
        """;
    /** Open patterns with 1, 2, 3, 4, 8 alternatives are the patterns 0, 1, 2, 3, 4. */
    private static final String OPEN_ALTERNATIVES = """
        any = 0; either 0 0 = 1; either 1 0 = 2; either 1 1 = 3; either 3 3 = 4
        """;
    /** The numbers 0 to 7 are the patterns 0 to 7, and the either of them all is pattern 14. */
    private static final String EIGHT_NUMBERS = """
        number # = 0..7
        either 0 1 = 8; either 8 2 = 9; either 9 3 = 10; either 10 4 = 11; either 11 5 = 12
        either 12 6 = 13; either 13 7 = 14
        """;
    /**
     * Thirteen numbers with 1, anything with 100, and 200 with anything: 2 tests, 13 times 4 parts
     * below a number, and twice 3 parts.
     */
    private static final String OF_SIZE_SIXTY = PAIRS_OF_INTS + """
        any = 0; number # = 1..13
        either 1 2 = 14; either 14 3 = 15; either 15 4 = 16; either 16 5 = 17; either 17 6 = 18
        either 18 7 = 19; either 19 8 = 20
        either 9 10 = 21; either 21 11 = 22; either 22 12 = 23; either 23 13 = 24
        build 0 20 1 = 25; build 0 24 1 = 26
        number 100 = 27; build 0 0 27 = 28
        number 200 = 29; build 0 29 0 = 30
        row 25 = 0; row 26 = 1; row 28 = 2; row 30 = 3
        """;
    /** Eight numbers with 1, anything with 100, 101, 102, and 200, 201, 202 with anything. */
    private static final String OF_SIZE_SEVENTY = PAIRS_OF_INTS + """
        any = 0; number # = 1..8
        either 1 2 = 9; either 9 3 = 10; either 10 4 = 11; either 11 5 = 12; either 12 6 = 13
        either 13 7 = 14; either 14 8 = 15
        number 100 = 16; number 101 = 17; number 102 = 18; either 16 17 = 19; either 19 18 = 20
        number 200 = 21; number 201 = 22; number 202 = 23; either 21 22 = 24; either 24 23 = 25
        build 0 15 1 = 26; build 0 0 20 = 27; build 0 25 0 = 28
        row 26 = 0; row 27 = 1; row 28 = 2
        """;
    private static final String NO_TREE = """
        kinds = NOTREE; longest = NOTREE; useless {-1|0|8|MIN|MAX} = NOTREE
        witnessLength = NOTREE; witnessKind {-1|0|31|MIN|MAX} = NOTREE
        witness {-1|0|31|MIN|MAX} = 0; run {-1|0|59|MIN|MAX} = NOTREE
        """;

    private ClauseMatrixEdges() {
    }

    public static void main(String[] args) {
        newObject();
        clear();
        useOfAnObject();
        type();
        constructor();
        constructorLimits();
        begin();
        beginWithEmptyTypes();
        any();
        number();
        buildOfWrongParts();
        buildOfWrongTypes();
        buildDepth();
        buildAlternatives();
        buildFull();
        either();
        eitherLimits();
        row();
        rowLimits();
        sixteenClausesAtTheLastPlace();
        compile();
        compileTooBig();
        kinds();
        longest();
        useless();
        uselessSums();
        witnessLength();
        witnessKind();
        witness();
        valueNumber();
        valueOfWrongParts();
        valueOfLimits();
        beforeAndAfterBegin();
        run();
        runRefused();
        tests();
        Script.finish();
    }

    private static void newObject() {
        Script.says("promise 1", "No own type,");
        Script.run("constructor {-1..6} -1 -1 = NOTYPE; begin {-1|1..6} = NOTYPE; type = 1");
        Script.says("promise 1", "constructor,");
        Script.run("build {-1..12} -1 -1 = NOCONSTRUCTOR; valueOf {-1..12} -1 -1 = NOCONSTRUCTOR");
        Script.run("type = 1; constructor 1 -1 -1 = 0; build 1 -1 -1 = NOCONSTRUCTOR");
        Script.says("promise 1", "pattern,");
        Script.run("either {-1..60} {-1|0|59} = NOPATTERN; begin 0 = 0; row {-1..60} = NOPATTERN; any = 0");
        Script.says("promise 1", "value");
        Script.run("begin 0 = 0; compile = 1; run {-1..60} = NOVALUE; tests = 0; valueNumber 0 = 0");
        Script.says("promise 1", "or match.");
        Script.run("row 0 = NOMATCH; compile = NOMATCH; tests = 0; type = 1", NO_TREE);
    }

    private static void clear() {
        Script.says("promise 2", "All is as it was at first.");
        String full = """
            type = 1..5; constructor 1 -1 -1 = 0..3; constructor 2 0 -1 = 4..7
            constructor 3 0 0 = 8; constructor 4 3 3 = 9; constructor 5 4 5 = 10; constructor 5 1 -1 = 11
            any = 0..59; valueNumber # = 0..59; begin 5 = 0; row # = 0..7; compile = 1
            """;
        String lists = LISTS + """
            any = 0; number 7 = 1; build 0 -1 -1 = 2; build 1 1 2 = 3
            valueNumber 7 = 0; valueOf 0 -1 -1 = 1; valueOf 1 0 1 = 2
            row 3 = 0; row 2 = 1; compile; run 2 = 0; tests = 3
            """;
        String anyAlone = TWIGS + "any = 0; row 0 = 0..3; compile = 1; valueOf 1 -1 -1 = 0; run 0 = 0; tests = 0\n";
        String onlyDeclared = "type = 1; constructor 1 0 0 = 0; any = 0; valueNumber 7 = 0\n";
        String tooBig = OF_SIZE_SIXTY + "build 0 1 2 = 31; row 31 = 4; compile = TOOBIG\n";
        String deepest = TWIGS + deepestTwigs() + "compile = 31\n";
        String flat = "type = 1; constructor 1 -1 -1 = 0..3; begin 1 = 0; build 3 -1 -1 = 0; row 0 = 0; compile = 5; kinds = 3\n";
        String numbers = "begin 0 = 0\n" + EIGHT_NUMBERS + "row 14 = 0; compile = 10; kinds = 10\n";
        String alikeTests = """
            type = 1; constructor 1 -1 -1 = 0..2; type = 2; constructor 2 1 0 = 3; begin 2 = 0
            any = 0; build 0 -1 -1 = 1; number 1 = 2; build 3 1 0 = 3; build 3 0 2 = 4; row 3 = 0; row 4 = 1; compile = 9; kinds = 6
            """;
        String[] all = {
            "", "clear\n", "type = 1\n", "begin 0 = 0\n", onlyDeclared, lists, anyAlone, tooBig, deepest, flat, numbers, alikeTests,
        };
        for (String after : all) {
            for (String before : all) {
                Script.alike(after, before + "clear\n" + after, Questions.all());
            }
        }
        Script.alike("", full + "clear\n", Questions.all());
        Script.run(full, "clear", full);
        Script.run(lists, "clear; tests = 0", NO_TREE);
    }

    private static void useOfAnObject() {
        Script.says("what it is", "An object is used for at most 512 calls after it has been made");
        String five = "begin 0 = 0; number 5 = 0; row 0 = 0; valueNumber 5 = 0; valueNumber 6 = 1\n";
        Script.run(five, "compile = 3\n".repeat(500), "any = 1..4; run 0 = 0; tests = 1; run 1 = FAIL");
        Script.run(five, "clear; type = 1\n".repeat(253), "type = 2");
    }

    private static void type() {
        Script.says("promise 3", "Declares an own type without constructors: its number.");
        Script.run("type = 1; begin 1 = EMPTY; build 0 -1 -1 = NOCONSTRUCTOR; type = 2");
        Script.says("promise 3", "CLOSED when a match was begun;");
        Script.run("begin 0 = 0; type = CLOSED; type = CLOSED");
        Script.run("type = 1; constructor 1 -1 -1 = 0; begin 1 = 0; type = CLOSED");
        Script.run("begin 1 = NOTYPE; type = 1; begin 1 = EMPTY; begin 0 = EMPTY; type = 2");
        Script.says("promise 3", "FULL when there are five.");
        Script.run("type = 1..5; type = FULL; type = FULL; constructor 5 -1 -1 = 0; constructor 6 -1 -1 = NOTYPE");
    }

    private static void constructor() {
        Script.says("promise 4", "b is -1 when there is one argument, and both are -1 when there is none.");
        Script.run("""
            type = 1; constructor 1 -1 -1 = 0; constructor 1 0 -1 = 1; constructor 1 0 1 = 2; any = 0
            build 0 -1 -1 = 1; build 0 0 -1 = NOPATTERN; build 0 -1 0 = NOPATTERN; build 0 0 0 = NOPATTERN
            build 1 0 -1 = 2; build 1 -1 -1 = NOPATTERN; build 1 0 0 = NOPATTERN; build 1 -1 0 = NOPATTERN
            build 2 0 0 = 3; build 2 0 -1 = NOPATTERN; build 2 -1 0 = NOPATTERN; build 2 -1 -1 = NOPATTERN
            """);
        Script.says("promise 4", "Answers its number.");
        Script.run("type = 1..3; constructor 3 -1 -1 = 0; constructor 1 -1 -1 = 1; constructor 3 -1 -1 = 2");
        Script.says("promise 4", "CLOSED when a match was begun;");
        Script.run("type = 1; constructor 1 -1 -1 = 0; begin 0 = 0; constructor 1 -1 -1 = CLOSED");
        Script.says("promise 4", "NOTYPE when t is not an own type that was declared,");
        Script.run("type = 1..2; constructor {0|-1|-2|3|MIN|MAX} -1 -1 = NOTYPE; constructor {1|2} -1 -1");
        Script.run("constructor {0|1} -1 -1 = NOTYPE; type = 1; constructor 1 -1 -1 = 0");
        Script.says("promise 4", "a or b is neither -1 nor the number of a type (0 is one),");
        Script.run("""
            type = 1..2
            constructor 1 {-2|3|MIN|MAX} {-1|0|2} = NOTYPE
            constructor 1 {0|1|2} {-2|3|MIN|MAX} = NOTYPE
            constructor 1 {-2|3|MIN|MAX} {-2|3|MIN|MAX} = NOTYPE
            constructor 1 0 -1 = 0; constructor 1 2 -1 = 1; constructor 1 0 0 = 2; constructor 1 2 2 = 3
            constructor 2 1 0 = 4; constructor 2 0 1 = 5
            """);
        Script.says("promise 4", "or a is -1 and b is not;");
        Script.run("type = 1; constructor 1 -1 {0|1|2|-2|MIN|MAX} = NOTYPE; constructor 1 -1 -1 = 0");
    }

    private static void constructorLimits() {
        Script.says("promise 4", "FULL when t has four constructors");
        Script.run("""
            type = 1..2; constructor 1 -1 -1 = 0..3; constructor 1 -1 -1 = FULL; constructor 1 0 0 = FULL
            constructor 2 0 -1 = 4..7; constructor 2 0 -1 = FULL; constructor 1 -1 -1 = FULL
            """);
        Script.run("""
            type = 1..2; constructor 1 -1 -1 = 0..2; constructor 2 -1 -1 = 3; constructor 1 -1 -1 = 4
            constructor 1 -1 -1 = FULL; constructor 2 -1 -1 = 5
            """);
        Script.says("promise 4", "or there are twelve.");
        Script.run("""
            type = 1..5; constructor 1 -1 -1 = 0..2; constructor 2 -1 -1 = 3..5; constructor 3 -1 -1 = 6..8
            constructor 4 -1 -1 = 9..10; constructor 5 -1 -1 = 11; constructor {1..5} -1 -1 = FULL
            build 11 -1 -1 = 0; build 12 -1 -1 = NOCONSTRUCTOR; valueOf 11 -1 -1 = 0; begin 5 = 0
            row 0 = 0; compile = 2; run 0 = 0
            """);
    }

    private static void begin() {
        Script.says("promise 5", "Begins the match, over type t; answers 0.");
        Script.run("begin 0 = 0; compile = 1");
        Script.run("""
            type = 1..5; constructor 1 -1 -1 = 0; constructor 2 -1 -1 = 1; constructor 3 -1 -1 = 2
            constructor 4 -1 -1 = 3; constructor 5 -1 -1 = 4; begin 5 = 0; valueOf 4 -1 -1 = 0; valueOf 3 -1 -1 = 1
            compile = 1; run 0 = FAIL; run 1 = ILLTYPED
            """);
        Script.says("promise 5", "CLOSED when one was begun;");
        Script.run("begin 0 = 0; begin 0 = CLOSED; begin 0 = CLOSED; compile = 1; begin 0 = CLOSED");
        Script.run(LISTS, "begin {0|1} = CLOSED; number 3 = 0; row 0 = ILLTYPED");
        Script.says("promise 5", "NOTYPE when t is not the number of a type;");
        Script.run("begin {-1|-2|1|MIN|MAX} = NOTYPE; begin 0 = 0");
        Script.run("""
            type = 1..5; constructor 1 -1 -1 = 0; constructor 2 -1 -1 = 1; constructor 3 -1 -1 = 2
            constructor 4 -1 -1 = 3; constructor 5 -1 -1 = 4; begin {6|-1|MIN|MAX} = NOTYPE; begin 5 = 0
            """);
    }

    private static void beginWithEmptyTypes() {
        Script.says("promise 5", "EMPTY when some own type has no value.");
        Script.run("type = 1; begin {0|1} = EMPTY; constructor 1 -1 -1 = 0; begin 0 = 0");
        Script.run("type = 1..2; constructor 1 -1 -1 = 0; begin {0|1|2} = EMPTY; constructor 2 0 -1 = 1; begin 1 = 0");
        Script.run("type = 1; constructor 1 1 -1 = 0; begin 1 = EMPTY; constructor 1 0 1 = 1; begin 1 = EMPTY\n"
            + "constructor 1 1 0 = 2; begin 1 = EMPTY; constructor 1 0 0 = 3; begin 1 = 0");
        Script.run("""
            type = 1..2; constructor 1 2 -1 = 0; constructor 2 1 -1 = 1; begin {0|1|2} = EMPTY
            constructor 2 0 1 = 2; begin 1 = EMPTY; constructor 1 0 -1 = 3; begin 1 = 0
            """);
        Script.says("promise 5", "EMPTY when some own type has no value. (values come from the last type up)");
        Script.run("""
            type = 1..5; constructor 1 2 -1 = 0; constructor 2 3 3 = 1; constructor 3 0 4 = 2; constructor 4 5 0 = 3
            constructor 5 1 -1 = 4; begin {0..5} = EMPTY; constructor 5 -1 -1 = 5; begin 1 = 0
            """);
        Script.run("""
            type = 1..5; constructor 5 4 -1 = 0; constructor 4 3 3 = 1; constructor 3 0 2 = 2; constructor 2 1 0 = 3
            constructor 1 5 -1 = 4; begin {0..5} = EMPTY; constructor 1 -1 -1 = 5; begin 5 = 0
            """);
    }

    private static void any() {
        Script.says("promise 6", "The pattern ANY: its number. FULL when there are sixty patterns.");
        Script.run("any = 0..59; any = FULL; any = FULL; begin 0 = 0; row 59 = 0; row 60 = NOPATTERN");
        Script.run("number 1 = 0..58; any = 59; any = FULL; begin 0 = 0; row 59 = 0; compile = 1");
    }

    private static void number() {
        Script.says("promise 7", "The pattern NUMBER v: its number.");
        Script.run("""
            number MIN = 0; number MAX = 1; number 0 = 2; number -1 = 3; begin 0 = 0
            valueNumber MIN = 0; valueNumber MAX = 1; valueNumber 0 = 2; valueNumber -1 = 3
            valueNumber -2147483647 = 4; valueNumber 2147483646 = 5; valueNumber 1 = 6; valueNumber 65536 = 7
            row # = 0..3; compile = 6
            run 0 = 0; run 1 = 1; run 2 = 2; run 3 = 3; run {4..7} = FAIL
            """);
        Script.says("promise 7", "FULL when there are sixty patterns.");
        Script.run("number # = 0..59; number 60 = FULL; number MIN = FULL; begin 0 = 0; row 59 = 0; row 60 = NOPATTERN");
        Script.run("any = 0..58; number 9 = 59; number 9 = FULL; begin 0 = 0; row 59 = 0; compile = 3");
    }

    private static void buildOfWrongParts() {
        String before = """
            type = 1..2; constructor 1 -1 -1 = 0; constructor 1 2 -1 = 1; constructor 2 0 1 = 2
            any = 0; number 7 = 1; build 0 -1 -1 = 2
            """;
        Script.says("promise 8", "-1 standing for each argument that c does not have: its number.");
        Script.run(before, "build 0 -1 -1 = 3; build 1 0 -1 = 4; build 2 1 2 = 5; build {0|1|2} -1 0 = NOPATTERN; build 2 -1 -1 = NOPATTERN");
        Script.says("promise 8", "NOCONSTRUCTOR when there is no c;");
        Script.run(before, "build {-1|-2|3|12|MIN|MAX} -1 -1 = NOCONSTRUCTOR; build 2 0 0 = 3");
        Script.says("promise 8", "NOPATTERN when p or q is no pattern where c has that argument,");
        Script.run(before, "build 1 {-1|-2|3|60|MIN|MAX} -1 = NOPATTERN; build 1 0 -1 = 3");
        Script.run(before, "build 2 {-1|-2|3|60|MIN|MAX} 0 = NOPATTERN; build 2 0 0 = 3");
        Script.run(before, "build 2 0 {-1|-2|3|60|MIN|MAX} = NOPATTERN; build 2 1 2 = 3");
        Script.says("promise 8", "or not -1 where it has not;");
        Script.run(before, "build 0 {-2|0|2|3|MIN|MAX} -1 = NOPATTERN; build 0 -1 -1 = 3");
        Script.run(before, "build 0 -1 {-2|0|2|3|MIN|MAX} = NOPATTERN; build 1 0 {-2|0|2|3|MIN|MAX} = NOPATTERN");
    }

    private static void buildOfWrongTypes() {
        Script.says("promise 8", "ILLTYPED when one of them does not fit the type of its argument;");
        String before = """
            type = 1..2; constructor 1 -1 -1 = 0; constructor 1 2 -1 = 1; constructor 2 0 1 = 2; constructor 2 -1 -1 = 3
            any = 0; number 7 = 1; build 0 -1 -1 = 2; build 3 -1 -1 = 3
            either 0 1 = 4; either 1 0 = 5; either 0 0 = 6; either 6 2 = 7; either 2 6 = 8
            """;
        Script.run(before, "build 1 {1|2|4|5|7|8} -1 = ILLTYPED; build 1 {0|3|6} -1");
        Script.run(before, "build 2 {2|3|7|8} {0|2|6} = ILLTYPED; build 2 {0|1|4|5|6} 2");
        Script.run(before, "build 2 {0|1|6} {1|3|4|5} = ILLTYPED; build 2 1 {0|2|6|7|8}");
        Script.run(before, "build 2 {2|3} {1|3} = ILLTYPED");
    }

    private static void buildDepth() {
        Script.says("promise 8", "DEEP when the depth would be 5;");
        Script.run(TWIGS, """
            any = 0; build 0 0 0 = 1; build 0 1 1 = 2; build 0 2 2 = 3
            build 0 3 {0..3} = DEEP; build 0 {0..3} 3 = DEEP; build 0 2 0 = 4; build 0 0 2 = 5
            build 0 {4|5} 0 = DEEP; build 0 0 {4|5} = DEEP
            """);
        Script.run("""
            type = 1; constructor 1 0 -1 = 0; constructor 1 1 -1 = 1; number 3 = 0; build 0 0 -1 = 1
            build 1 1 -1 = 2; build 1 2 -1 = 3; build 1 3 -1 = DEEP; any = 4; build 1 4 -1 = 5
            build 1 5 -1 = 6; build 1 6 -1 = 7; build 1 7 -1 = DEEP
            """);
        Script.run(TWIGS, """
            build 1 -1 -1 = 0; build 0 0 0 = 1; build 0 1 0 = 2; build 0 2 0 = 3; build 0 3 0 = DEEP
            either 0 3 = 4; either 3 0 = 5; either 2 2 = 6
            build 0 {4|5} 0 = DEEP; build 0 0 {4|5} = DEEP; build 0 6 6 = 7
            """);
    }

    private static void buildAlternatives() {
        Script.says("promise 8", "MANY when it would have more than eight alternatives;");
        Script.run(TWIGS, OPEN_ALTERNATIVES, """
            build 0 4 0 = 5; build 0 0 4 = 6; build 0 3 1 = 7; build 0 1 3 = 8; build 0 2 1 = 9; build 0 1 2 = 10
            build 0 2 2 = MANY; build 0 3 2 = MANY; build 0 2 3 = MANY; build 0 3 3 = MANY
            build 0 4 {1|2|3|4} = MANY; build 0 {1|2|3} 4 = MANY
            build 0 {5..8} 0; build 0 0 {5..8}; build 0 {5..8} 1 = MANY; build 0 1 {5..8} = MANY
            """);
        Script.run("type = 1; constructor 1 0 -1 = 0; constructor 1 1 -1 = 1", OPEN_ALTERNATIVES, """
            build 0 4 -1 = 5; build 1 5 -1 = 6; build 1 6 -1 = 7
            """);
    }

    private static void buildFull() {
        Script.says("promise 8", "FULL when there are sixty patterns.");
        Script.run(LISTS, """
            any = 0..58; build 0 -1 -1 = 59; build 0 -1 -1 = FULL; build 1 0 59 = FULL; build 1 0 60 = NOPATTERN
            row 59 = 0; compile = 3
            """);
        Script.run(LISTS, "any = 0..58; build 1 0 58 = 59; build 1 0 59 = FULL; row 59 = 0; compile = 3");
    }

    private static void either() {
        Script.says("promise 9", "NOPATTERN when p or q is no pattern;");
        Script.run("either {-1|0|MIN|MAX} {-1|0|MIN|MAX} = NOPATTERN; any = 0; number 1 = 1");
        Script.run("any = 0; number 1 = 1; either {-1|-2|2|60|MIN|MAX} 0 = NOPATTERN; either 0 1 = 2");
        Script.run("any = 0; number 1 = 1; either 0 {-1|-2|2|60|MIN|MAX} = NOPATTERN; either 1 1 = 2");
        Script.says("promise 9", "ILLTYPED when the types of both are not open and not the same;");
        Script.run(LISTS, """
            any = 0; number 1 = 1; build 0 -1 -1 = 2; either 1 2 = ILLTYPED; either 2 1 = ILLTYPED
            either 0 1 = 3; either 1 0 = 4; either 0 2 = 5; either 2 0 = 6; either 0 0 = 7; either 7 1 = 8; either 2 7 = 9
            either {1|3|4|8} {2|5|6|9} = ILLTYPED; either {2|5|6|9} {1|3|4|8} = ILLTYPED
            either 3 4 = 10; either 5 6 = 11
            """);
        Script.run("""
            type = 1..2; constructor 1 -1 -1 = 0; constructor 2 -1 -1 = 1; build 0 -1 -1 = 0; build 1 -1 -1 = 1
            either 0 1 = ILLTYPED; either 1 0 = ILLTYPED; either 0 0 = 2; either 1 1 = 3; either {0|2} 3 = ILLTYPED
            """);
    }

    private static void eitherLimits() {
        Script.says("promise 9", "MANY when it would have more than eight alternatives;");
        Script.run(OPEN_ALTERNATIVES, """
            either 4 0 = MANY; either 0 4 = MANY; either 4 4 = MANY
            either 3 2 = 5; either 5 0 = 6; either 0 5 = 7; either 5 1 = MANY; either 1 5 = MANY; either 3 3 = 8
            either 3 0 = 9; either 9 2 = 10; either 2 9 = 11; either 9 3 = MANY; either 3 9 = MANY
            either {4|6|7|8|10|11} {0..11} = MANY; either {0..11} {4|6|7|8|10|11} = MANY
            """);
        Script.says("promise 9", "MANY when it would have more than eight alternatives; (those of a BUILD)");
        Script.run(TWIGS, OPEN_ALTERNATIVES, """
            build 0 3 1 = 5; either 5 0 = MANY; build 0 2 1 = 6; either 6 1 = 7; either 6 2 = MANY; either 2 6 = MANY
            build 1 -1 -1 = 8; either 8 8 = 9; either 6 9 = 10; either 10 8 = MANY
            """);
        Script.says("promise 9", "FULL when there are sixty patterns.");
        Script.run("any = 0..58; either 0 58 = 59; either 0 0 = FULL; either 0 59 = FULL; either 0 60 = NOPATTERN");
    }

    private static void row() {
        Script.says("promise 10", "There is no tree then.");
        Script.run("begin 0 = 0; any = 0; compile = 1; kinds = 1; row 0 = 0", NO_TREE);
        Script.run("begin 0 = 0; any = 0; row 0 = 0; compile = 1; kinds = 1; row 0 = 1", NO_TREE, "compile = 1; useless 1 = 1");
        Script.says("promise 10", "NOMATCH when no match was begun;");
        Script.run("any = 0; row {-1|0|1|MIN|MAX} = NOMATCH; begin 1 = NOTYPE; row 0 = NOMATCH; begin 0 = 0; row 0 = 0");
        Script.run("any = 0; type = 1; begin 0 = EMPTY; row 0 = NOMATCH");
        Script.says("promise 10", "NOPATTERN when p is no pattern;");
        Script.run("begin 0 = 0; row {-1|0|MIN|MAX} = NOPATTERN; any = 0; row {-1|-2|1|60|MIN|MAX} = NOPATTERN; row 0 = 0");
        Script.says("promise 10", "ILLTYPED when it does not fit the type of the match;");
        Script.run("""
            type = 1..2; constructor 1 -1 -1 = 0; constructor 2 -1 -1 = 1; begin 1 = 0
            any = 0; number 0 = 1; build 0 -1 -1 = 2; build 1 -1 -1 = 3; either 0 1 = 4; either 0 2 = 5; either 0 0 = 6
            row {1|3|4} = ILLTYPED; row 0 = 0; row 2 = 1; row 5 = 2; row 6 = 3
            """);
        Script.run("""
            type = 1; constructor 1 -1 -1 = 0; begin 0 = 0; any = 0; number 0 = 1; build 0 -1 -1 = 2; either 2 0 = 3
            either 0 1 = 4; row {2|3} = ILLTYPED; row 1 = 0; row 4 = 1; row 0 = 2
            """);
    }

    private static void rowLimits() {
        Script.says("promise 10", "FULL when there are eight rows,");
        Script.run("begin 0 = 0; any = 0; row 0 = 0..7; row 0 = FULL; row 0 = FULL; compile = 1; useless 7 = 1; useless 8 = NONE");
        Script.run("begin 0 = 0; number # = 0..7; row # = 0..7; row 0 = FULL; compile = 10; row 7 = FULL; kinds = 10");
        Script.says("promise 10", "or there would be more than sixteen clauses.");
        Script.run("begin 0 = 0", EIGHT_NUMBERS, """
            row 14 = 0; row 14 = 1; row {0|8|14} = FULL; compile = 10; row 0 = FULL; kinds = 10
            useless 0 = 0; useless 1 = 255; useless 2 = NONE
            """);
        Script.run("begin 0 = 0", EIGHT_NUMBERS, """
            row 14 = 0; row 13 = 1; row {8..14} = FULL; row 7 = 2; row {0..14} = FULL
            """);
        Script.run("begin 0 = 0", EIGHT_NUMBERS, "row 8 = 0..7; row 0 = FULL; compile = 4; useless 7 = 3");
        Script.run("begin 0 = 0", EIGHT_NUMBERS, """
            row 8 = 0..6; row {9..14} = FULL; row 8 = 7; row 0 = FULL
            """);
    }

    /** The sixteenth clause asks at place 15, the greatest one at which a pattern can ask. */
    private static void sixteenClausesAtTheLastPlace() {
        Script.says("promise 10", "or there would be more than sixteen clauses. (sixteen that ask at the greatest place)");
        Script.run("""
            type = 1; constructor 1 1 1 = 0; constructor 1 -1 -1 = 1; constructor 1 -1 -1 = 2; begin 1 = 0
            any = 0; build 1 -1 -1 = 1; build 2 -1 -1 = 2; either 1 1 = 3; either 1 2 = 4
            build 0 0 3 = 5; build 0 0 5 = 6; build 0 0 6 = 7; build 0 0 4 = 8; build 0 0 8 = 9; build 0 0 9 = 10
            row 7 = 0..6; row 10 = 7; row 0 = FULL; compile = 13; kinds = 7; longest = 4
            useless 0 = 2; useless {1..6} = 3; useless 7 = 1
            valueOf 1 -1 -1 = 0; valueOf 2 -1 -1 = 1; valueOf 0 0 1 = 2; valueOf 0 0 2 = 3; valueOf 0 0 3 = 4; valueOf 0 0 4 = 5
            valueOf 0 0 0 = 6; valueOf 0 0 6 = 7; valueOf 0 0 7 = 8
            run 4 = 7; tests = 4; run 8 = 0; tests = 4; run 5 = FAIL; tests = 4; run 0 = FAIL; tests = 1
            """);
        Script.run("type = 1; constructor 1 1 1 = 0; constructor 1 -1 -1 = 1; constructor 1 0 0 = 2; begin 1 = 0\n", EIGHT_NUMBERS, """
            number 8 = 15; number 9 = 16; number 10 = 17; number 11 = 18; number 12 = 19; number 13 = 20; number 14 = 21; number MAX = 22
            either 15 16 = 23; either 17 18 = 24; either 19 20 = 25; either 21 22 = 26; either 23 24 = 27; either 25 26 = 28; either 27 28 = 29
            any = 30; build 2 30 14 = 31; build 0 30 31 = 32; build 0 30 32 = 33; build 2 30 29 = 34; build 0 30 34 = 35; build 0 30 35 = 36
            row 33 = 0; row 36 = 1; row 30 = FULL; compile = 27; kinds = 21; longest = 4; useless {0|1} = 0
            valueNumber MAX = 0; valueOf 2 0 0 = 1; valueOf 0 1 1 = 2; valueOf 0 2 2 = 3; run 3 = 1; tests = 4; run 2 = FAIL; tests = 2
            """);
    }

    private static void compile() {
        Script.says("promise 11", "Grows the tree for the rows that there are (perhaps none): its size.");
        Script.run("begin 0 = 0; compile = 1; compile = 1; kinds = 1");
        Script.run(LISTS, "compile = 1; kinds = 1; any = 0; row 0 = 0; compile = 1; compile = 1; kinds = 1");
        Script.run("begin 0 = 0", EIGHT_NUMBERS, "row 14 = 0; row 14 = 1; compile = 10");
        for (String rows : new String[] {OF_SIZE_SIXTY, OF_SIZE_SEVENTY, TWIGS + deepestTwigs()}) {
            // A tree for the rows before has no part in the tree for them all.
            Script.alike(rows, rows.replaceAll("(row \\d+ = \\d+)", "compile; $1"), Questions.all());
        }
        Script.says("promise 11", "NOMATCH when no match was begun;");
        Script.run("compile = NOMATCH; any = 0; begin 1 = NOTYPE; compile = NOMATCH; begin 0 = 0; compile = 1");
        Script.run("type = 1; begin 0 = EMPTY; compile = NOMATCH", NO_TREE);
    }

    private static void compileTooBig() {
        Script.says("promise 11", "TOOBIG when the size would be more than 60:");
        Script.run(OF_SIZE_SIXTY, "compile = 60; compile = 60; kinds = 33; longest = 3");
        Script.run(OF_SIZE_SIXTY, "row 0 = 4; compile = 60; witnessLength = 0");
        Script.run(OF_SIZE_SIXTY, "build 0 1 2 = 31; row 31 = 4; compile = TOOBIG; compile = TOOBIG");
        Script.run(OF_SIZE_SEVENTY, "compile = TOOBIG; compile = TOOBIG");
        Script.says("promise 11", "then there is no tree (this alone is changed).");
        Script.run(OF_SIZE_SIXTY, """
            compile = 60; valueNumber 13 = 0; valueNumber 1 = 1; valueOf 0 0 1 = 2; run 2 = 1; tests = 3
            build 0 1 2 = 31; row 31 = 4; compile = TOOBIG
            """, NO_TREE, "tests = 3; type = CLOSED; begin 0 = CLOSED; any = 32; valueNumber 0 = 3; row 0 = FULL");
        // With a row more the second number is asked for most, and the tree that tests it first is small.
        Script.run(OF_SIZE_SEVENTY, """
            compile = TOOBIG; number 103 = 29; build 0 0 29 = 30; row 30 = 3; compile = 28
            useless {0..3} = 0; useless 4 = NONE; valueNumber 103 = 0; valueOf 0 0 0 = 1; run 1 = 3; tests = 3
            """);
    }

    private static void kinds() {
        Script.says("promise 12", "alike ones counted once.");
        Script.run("begin 0 = 0; compile = 1; kinds = 1; kinds = 1; any = 0; row 0 = 0; compile = 1; kinds = 1");
        Script.run("begin 0 = 0; number # = 0..7; row # = 0..7; compile = 10; kinds = 10");
        Script.run("""
            type = 1; constructor 1 -1 -1 = 0..3; begin 1 = 0; build 3 -1 -1 = 0; row 0 = 0
            compile = 5; kinds = 3; any = 1; row 1 = 1; compile = 5; kinds = 3; compile = 5; kinds = 3
            """);
        Script.says("promise 12", "NOTREE when there is no tree.");
        Script.run("kinds = NOTREE; begin 0 = 0; kinds = NOTREE; compile = 1; kinds = 1; clear; kinds = NOTREE");
    }

    private static void longest() {
        Script.says("promise 13", "The greatest number of tests on a way from the top to a leaf.");
        Script.run("begin 0 = 0; compile = 1; longest = 0; number 3 = 0; row 0 = 0; compile = 3; longest = 1");
        Script.run(TWIGS, deepestTwigs(), "compile = 31; longest = 15");
        // The longest way lies in the middle one of three branches.
        Script.run("""
            type = 1; constructor 1 -1 -1 = 0; constructor 1 1 1 = 1; constructor 1 -1 -1 = 2; begin 1 = 0
            build 0 -1 -1 = 0; build 1 0 0 = 1; row 1 = 0; compile = 10; longest = 3
            """);
        Script.says("promise 13", "NOTREE when there is no tree.");
        Script.run("longest = NOTREE; begin 0 = 0; longest = NOTREE; compile = 1; longest = 0; any = 0; row 0 = 0; longest = NOTREE");
    }

    /** Row k has nodes at the places 1 to 7 and an end at place 8 + k, all else is any. */
    private static String deepestTwigs() {
        StringBuilder text = new StringBuilder("any = 0; build 1 -1 -1 = 1; build 0 0 0 = 2; build 0 2 2 = 3\n");
        int made = 4;
        for (int k = 0; k < 8; k++) {
            text.append("build 0 ").append(k % 2 == 0 ? "1 0" : "0 1").append(" = ").append(made).append('\n');
            String middle = k / 2 % 2 == 0 ? made + " 2" : "2 " + made;
            text.append("build 0 ").append(middle).append(" = ").append(made + 1).append('\n');
            String whole = k / 4 == 0 ? made + 1 + " 3" : "3 " + (made + 1);
            text.append("build 0 ").append(whole).append(" = ").append(made + 2).append('\n');
            text.append("row ").append(made + 2).append(" = ").append(k).append('\n');
            made += 3;
        }
        return text.toString();
    }

    private static void useless() {
        Script.says("promise 14", "NOTREE when there is no tree;");
        Script.run("useless {-1|0|MIN|MAX} = NOTREE; begin 0 = 0; any = 0; row 0 = 0; useless {-1|0|1} = NOTREE\n"
            + "compile = 1; useless 0 = 0; row 0 = 1; useless {0|1|2} = NOTREE");
        Script.says("promise 14", "NONE when there is no row r.");
        Script.run("begin 0 = 0; compile = 1; useless {-1|0|1|MIN|MAX} = NONE");
        Script.run("begin 0 = 0; any = 0; row 0 = 0; compile = 1; useless {-1|-2|1|8|16|MIN|MAX} = NONE; useless 0 = 0");
        Script.run("begin 0 = 0; any = 0; row 0 = 0..7; compile = 1; useless {-1|8|9|16|MIN|MAX} = NONE; useless {1..7} = 1");
    }

    private static void uselessSums() {
        Script.says("promise 14", "the sum of 2 to their numbers.");
        for (int k = 0; k < 8; k++) {
            Script.run("begin 0 = 0", EIGHT_NUMBERS, "row " + k + " = 0; row 14 = 1; compile = 10\n"
                + "useless 0 = 0; useless 1 = " + (1 << k));
        }
        Script.run("begin 0 = 0", EIGHT_NUMBERS, "row 14 = 0; row 14 = 1; compile = 10; useless 0 = 0; useless 1 = 255");
        Script.run("begin 0 = 0", OPEN_ALTERNATIVES, "row 4 = 0; row 4 = 1; compile = 1; useless 0 = 254; useless 1 = 255");
        Script.run("begin 0 = 0", EIGHT_NUMBERS, """
            row 8 = 0; row 3 = 1; row 7 = 2; row 14 = 3; compile = 10
            useless {0|1|2} = 0; useless 3 = 139 // 1 + 2 + 8 + 128
            """);
    }

    private static void witnessLength() {
        Script.says("promise 15", "The number of symbols of the witness;");
        Script.run("begin 0 = 0; compile = 1; witnessLength = 1");
        Script.run(TWIGS, deepestTwigs(), "compile = 31; witnessLength = 31");
        Script.says("promise 15", "0 when there is none.");
        Script.run("begin 0 = 0; any = 0; row 0 = 0; compile = 1; witnessLength = 0");
        Script.run(TWIGS, "any = 0; build 0 0 0 = 1; build 1 -1 -1 = 2; row 1 = 0; compile = 3; witnessLength = 1\n"
            + "row 2 = 1; compile = 3; witnessLength = 0");
        Script.says("promise 15", "NOTREE when there is no tree.");
        Script.run("witnessLength = NOTREE; begin 0 = 0; witnessLength = NOTREE; compile = 1; number 1 = 0; row 0 = 0; witnessLength = NOTREE");
    }

    private static void witnessKind() {
        Script.says("promise 16", "0 when it is ANYTHING, 1 for a number, 2 for a constructor.");
        Script.run(LISTS, """
            any = 0; build 0 -1 -1 = 1; number 0 = 2; build 1 2 0 = 3; row 1 = 0; row 3 = 1; compile = 5
            witnessLength = 3; witnessKind 0 = 2; witnessKind 1 = 1; witnessKind 2 = 0
            """);
        Script.says("promise 16", "NOTREE when there is no tree;");
        Script.run("witnessKind {-1|0|1|MIN|MAX} = NOTREE; begin 0 = 0; witnessKind {-1|0} = NOTREE; any = 0; compile = 1\n"
            + "witnessKind 0 = 0; row 0 = 0; witnessKind {-1|0|1} = NOTREE");
        Script.says("promise 16", "NONE when there is no such symbol.");
        Script.run("begin 0 = 0; compile = 1; witnessKind {-1|-2|1|2|31|32|MIN|MAX} = NONE; witnessKind 0 = 0");
        Script.run("begin 0 = 0; any = 0; row 0 = 0; compile = 1; witnessKind {-1|0|1|31|MIN|MAX} = NONE");
        Script.run(TWIGS, deepestTwigs(), "compile = 31; witnessKind 30 = 0; witnessKind {-1|31|32|MIN|MAX} = NONE");
    }

    private static void witness() {
        Script.says("promise 17", "the number or the number of the constructor;");
        Script.run(PAIRS_OF_INTS, """
            number MIN = 0; number MAX = 1; any = 2; build 0 0 1 = 3; row 3 = 0; compile = 6
            witnessKind 0 = 2; witness 0 = 0; witnessKind 1 = 1; witness 1 = MIN; witnessKind 2 = 1; witness 2 = 0
            build 0 0 2 = 4; row 4 = 1; compile = 6; witness 1 = 0; witnessKind 2 = 0
            """);
        Script.run(PAIRS_OF_INTS, """
            number MAX = 0; build 0 0 0 = 1; row 1 = 0; compile = 6; witnessKind 1 = 1; witness 1 = MAX
            """);
        Script.run("""
            type = 1; type = 2; constructor 2 -1 -1 = 0..3; constructor 1 -1 -1 = 4..7; begin 1 = 0
            build 4 -1 -1 = 0; build 5 -1 -1 = 1; build 6 -1 -1 = 2; row 0 = 0; row 1 = 1; row 2 = 2; compile = 5
            witnessLength = 1; witnessKind 0 = 2; witness 0 = 7
            """);
        Script.says("promise 17", "0 when it is ANYTHING,");
        Script.run(LISTS, """
            any = 0; build 0 -1 -1 = 1; row 1 = 0; compile = 3; witness 0 = 1
            witnessKind {1|2} = 0; witness {1|2} = 0
            """);
        Script.says("promise 17", "when there is no such symbol");
        Script.run(LISTS, "build 0 -1 -1 = 0; row 0 = 0; compile = 3; witness 0 = 1; witness {-1|3|4|31|32|MIN|MAX} = 0");
        Script.run("begin 0 = 0; number 0 = 0; row 0 = 0; compile = 3; witness 0 = 1; witness {-1|1|MIN|MAX} = 0\n"
            + "any = 1; row 1 = 1; compile = 3; witness {-1|0|1|MIN|MAX} = 0");
        Script.says("promise 17", "or no tree.");
        Script.run("witness {-1|0|1|MIN|MAX} = 0; begin 0 = 0; number 0 = 0; row 0 = 0; witness 0 = 0; compile = 3\n"
            + "witness 0 = 1; row 0 = 1; witness {-1|0|1|MIN|MAX} = 0");
    }

    private static void valueNumber() {
        Script.says("promise 18", "A value, the int v: its number (values have numbers 0, 1, .. of their own).");
        Script.run("""
            any = 0; valueNumber MIN = 0; any = 1; valueNumber MAX = 1; number 5 = 2; valueNumber -1 = 2; begin 0 = 0
            number MAX = 3; number MIN = 4; number -1 = 5; row 3 = 0; row 4 = 1; row 5 = 2; compile = 5
            run 0 = 1; run 1 = 0; run 2 = 2; run 3 = NOVALUE
            """);
        Script.says("promise 18", "FULL when there are sixty values.");
        Script.run("valueNumber # = 0..59; valueNumber 60 = FULL; valueNumber MIN = FULL; any = 0; number 59 = 1; begin 0 = 0\n"
            + "row 1 = 0; compile = 3; run 59 = 0; run 58 = FAIL; run 60 = NOVALUE");
        Script.run(LISTS, "valueOf 0 -1 -1 = 0..58; valueNumber 4 = 59; valueNumber 4 = FULL; valueOf 1 59 0 = FULL");
    }

    private static void valueOfWrongParts() {
        String before = """
            type = 1..2; constructor 1 -1 -1 = 0; constructor 1 2 -1 = 1; constructor 2 0 1 = 2; constructor 2 -1 -1 = 3
            valueNumber 7 = 0; valueOf 0 -1 -1 = 1; valueOf 3 -1 -1 = 2; any = 0..9
            """;
        Script.says("promise 19", "-1 standing for each argument that c does not have: its number.");
        Script.run(before, "valueOf 0 -1 -1 = 3; valueOf 1 2 -1 = 4; valueOf 2 0 1 = 5; valueOf {0|1|2} -1 1 = NOVALUE; valueOf {1|2} -1 -1 = NOVALUE");
        Script.says("promise 19", "NOCONSTRUCTOR when there is no c;");
        Script.run(before, "valueOf {-1|-2|4|12|MIN|MAX} -1 -1 = NOCONSTRUCTOR; valueOf 2 0 1 = 3");
        Script.says("promise 19", "NOVALUE when x or y is no value where c has that argument,");
        Script.run(before, "valueOf 1 {-1|-2|3|60|MIN|MAX} -1 = NOVALUE; valueOf 1 2 -1 = 3");
        Script.run(before, "valueOf 2 {-1|-2|3|60|MIN|MAX} 1 = NOVALUE; valueOf 2 0 {-1|-2|3|60|MIN|MAX} = NOVALUE; valueOf 2 0 1 = 3");
        Script.says("promise 19", "or not -1 where it has not;");
        Script.run(before, "valueOf 0 {-2|0|1|3|MIN|MAX} -1 = NOVALUE; valueOf 0 -1 {-2|0|1|3|MIN|MAX} = NOVALUE");
        Script.run(before, "valueOf 1 2 {-2|0|1|3|MIN|MAX} = NOVALUE; valueOf 1 2 -1 = 3");
        Script.says("promise 19", "ILLTYPED when one of them is not of the type of its argument;");
        Script.run(before, "valueOf 1 {0|1} -1 = ILLTYPED; valueOf 1 2 -1 = 3; valueOf 1 3 -1 = ILLTYPED");
        Script.run(before, "valueOf 2 {1|2} {0|1|2} = ILLTYPED; valueOf 2 0 {0|2} = ILLTYPED; valueOf 2 0 1 = 3; valueOf 2 0 3 = ILLTYPED");
    }

    private static void valueOfLimits() {
        Script.says("promise 19", "FULL when there are sixty values.");
        Script.run(LISTS, "valueOf 0 -1 -1 = 0..59; valueOf 0 -1 -1 = FULL; compile = 1; run 59 = FAIL; run 60 = NOVALUE");
        Script.run(LISTS, "valueNumber 4 = 0..57; valueOf 0 -1 -1 = 58; valueOf 1 57 58 = 59; valueOf 1 57 59 = FULL; compile = 1; run 59 = FAIL");
        Script.says("promise 19", "A value, constructor c with the values x and y: its number. (values have no greatest depth)");
        StringBuilder long60 = new StringBuilder("valueNumber 7 = 0; valueOf 0 -1 -1 = 1\n");
        for (int v = 2; v < 60; v++) {
            long60.append("valueOf 1 0 ").append(v - 1).append(" = ").append(v).append('\n');
        }
        Script.run(LISTS, long60.toString(), """
            any = 0; number 7 = 1; build 1 1 0 = 2; build 1 1 2 = 3; build 1 1 3 = 4; row 4 = 0; compile
            run 59 = 0; tests = 6; run 4 = 0; tests = 6; run 3 = FAIL; tests = 5; run 2 = FAIL; tests = 3; run 1 = FAIL; tests = 1
            """);
    }

    private static void beforeAndAfterBegin() {
        Script.says("promises 6 to 9, 18 and 19", "none of them names a match as wanted");
        String made = """
            any = 0; number 7 = 1; build 0 -1 -1 = 2; build 1 1 2 = 3; either 2 3 = 4
            valueNumber 7 = 0; valueOf 0 -1 -1 = 1; valueOf 1 0 1 = 2
            build 2 -1 -1 = NOCONSTRUCTOR; build 1 0 9 = NOPATTERN; build 1 2 2 = ILLTYPED; either 9 0 = NOPATTERN; either 1 2 = ILLTYPED
            valueOf 2 -1 -1 = NOCONSTRUCTOR; valueOf 1 0 9 = NOVALUE; valueOf 1 1 1 = ILLTYPED
            """;
        String lists = "type = 1; constructor 1 -1 -1 = 0; constructor 1 0 1 = 1\n";
        Script.alike(lists + made + "begin 1 = 0\n", lists + "begin 1 = 0\n" + made, Questions.all());
        Script.alike(lists + made + "begin 1 = 0; row 4 = 0\n", lists + "begin 1 = 0\n" + made + "row 4 = 0\n", Questions.all());
        Script.run(lists, "any = 0..59; any = FULL; valueNumber 1 = 0..59; valueNumber 1 = FULL; begin 1 = 0; any = FULL; valueNumber 1 = FULL");
        // Types and constructors may come after patterns and values, too.
        Script.run("""
            any = 0; number 7 = 1; valueNumber 7 = 0; type = 1; constructor 1 0 -1 = 0; build 0 1 -1 = 2; valueOf 0 0 -1 = 1
            type = 2; constructor 2 1 -1 = 1; build 1 2 -1 = 3; valueOf 1 1 -1 = 2; begin 2 = 0; row 3 = 0; compile = 5; run 2 = 0; tests = 3
            """);
    }

    private static void run() {
        Script.says("promise 20", "Takes value v through the tree: the row of the leaf's clause, or FAIL.");
        Script.run("begin 0 = 0; valueNumber 3 = 0; compile = 1; run 0 = FAIL; any = 0; row 0 = 0; compile = 1; run 0 = 0");
        Script.run("begin 0 = 0", EIGHT_NUMBERS, """
            valueNumber # = 0..8; row 13 = 0; row 13 = 1; row 7 = 2; row 14 = FULL; compile = 10
            run {0..6} = 0; run 7 = 2; run 8 = FAIL
            """);
        Script.run("begin 0 = 0; number # = 0..7; row # = 0..7; valueNumber 7 = 0; compile = 10; run 0 = 7");
    }

    private static void runRefused() {
        Script.says("promise 20", "NOTREE when there is no tree;");
        Script.run("valueNumber 1 = 0; run 0 = NOTREE; begin 0 = 0; run 0 = NOTREE; compile = 1; run 0 = FAIL; any = 0; row 0 = 0; run 0 = NOTREE");
        Script.says("promise 20", "NOVALUE when there is no value v;");
        Script.run("begin 0 = 0; compile = 1; run {-1|0|MIN|MAX} = NOVALUE; valueNumber 1 = 0; run {-1|-2|1|60|MIN|MAX} = NOVALUE; run 0 = FAIL");
        Script.says("promise 20", "ILLTYPED when it is not of the type of the match.");
        Script.run("""
            type = 1..2; constructor 1 -1 -1 = 0; constructor 2 -1 -1 = 1; begin 1 = 0; any = 0; row 0 = 0; compile = 1
            valueNumber 1 = 0; valueOf 0 -1 -1 = 1; valueOf 1 -1 -1 = 2; run {0|2} = ILLTYPED; run 1 = 0
            """);
        Script.run("""
            type = 1; constructor 1 -1 -1 = 0; begin 0 = 0; any = 0; row 0 = 0; compile = 1
            valueNumber 0 = 0; valueOf 0 -1 -1 = 1; run 1 = ILLTYPED; run 0 = 0
            """);
    }

    private static void tests() {
        Script.says("promise 21", "The number of tests that the latest run that was not refused went through;");
        String before = LISTS + """
            any = 0; number 7 = 1; build 1 1 0 = 2; row 2 = 0; valueNumber 7 = 0; valueOf 0 -1 -1 = 1; valueOf 1 0 1 = 2
            """;
        Script.run(before, """
            run 2 = NOTREE; tests = 0; compile = 5; run 2 = 0; tests = 2; tests = 2; run 3 = NOVALUE; tests = 2
            run 0 = ILLTYPED; tests = 2; run 1 = FAIL; tests = 1; run {-1|MIN|MAX} = NOVALUE; tests = 1
            run 2 = 0; tests = 2; row 0 = 1; tests = 2; run 1 = NOTREE; tests = 2; compile = 5; tests = 2
            """);
        Script.run("begin 0 = 0; valueNumber 1 = 0; number 1 = 0; row 0 = 0; compile = 3; run 0 = 0; tests = 1; any = 1\n"
            + "clear; begin 0 = 0; compile = 1; valueNumber 1 = 0; run 0 = FAIL; tests = 0");
        Script.run(TWIGS, deepestTwigs(), """
            compile = 31; valueOf 1 -1 -1 = 0; valueOf 0 0 0 = 1; valueOf 0 1 1 = 2; valueOf 0 2 2 = 3; valueOf 0 3 3 = 4
            run 4 = FAIL; tests = 15; run 3 = 0; tests = 8; run 0 = FAIL; tests = 1
            """);
        Script.says("promise 21", "0 when there was none since the object was made or clear was called.");
        Script.run("tests = 0; begin 0 = 0; compile = 1; tests = 0; run 0 = NOVALUE; tests = 0");
        Script.run(before, "compile = 5; run 2 = 0; tests = 2; clear; tests = 0; run 2 = NOTREE; tests = 0");
    }
}
