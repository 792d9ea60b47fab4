/** For each promise of the document: ordinary inputs, the edges that it names, and wrong inputs. */
public final class ClauseMatrixPromises {
    private static final int LEAST = Integer.MIN_VALUE;
    private static final int GREATEST = Integer.MAX_VALUE;
    private static final int FAIL = ClauseMatrix.FAIL;
    private static final int CLOSED = ClauseMatrix.CLOSED;
    private static final int NOTYPE = ClauseMatrix.NOTYPE;
    private static final int NOCONSTRUCTOR = ClauseMatrix.NOCONSTRUCTOR;
    private static final int NOPATTERN = ClauseMatrix.NOPATTERN;
    private static final int NOVALUE = ClauseMatrix.NOVALUE;
    private static final int ILLTYPED = ClauseMatrix.ILLTYPED;
    private static final int FULL = ClauseMatrix.FULL;
    private static final int DEEP = ClauseMatrix.DEEP;
    private static final int MANY = ClauseMatrix.MANY;
    private static final int EMPTY = ClauseMatrix.EMPTY;
    private static final int NOMATCH = ClauseMatrix.NOMATCH;
    private static final int NOTREE = ClauseMatrix.NOTREE;
    private static final int TOOBIG = ClauseMatrix.TOOBIG;
    private static final int NONE = ClauseMatrix.NONE;

    private static int wrong = 0;
    private static int promise = 0;

    private ClauseMatrixPromises() {
    }

    public static void main(String[] args) {
        promise01NewObject();
        promise02Clear();
        promise03Type();
        promise04Constructor();
        promise05Begin();
        promise06Any();
        promise07Number();
        promise08Build();
        promise08BuildLimits();
        promise09Either();
        promise10Row();
        promise10RowLimits();
        promise11Compile();
        promise11ChoiceOfPlace();
        promise11TooBig();
        promise12Kinds();
        promise13Longest();
        promise14Useless();
        promise14OrderOfAlternatives();
        promise15To17Witness();
        promise15To17DeepWitness();
        promise15To17NoWitness();
        promise18ValueNumber();
        promise19ValueOf();
        promise20Run();
        promise21Tests();
        System.out.println(wrong == 0 ? "all promises hold" : wrong + " answers are not as due");
        if (wrong != 0) {
            System.exit(1);
        }
    }

    private static void due(String what, int want, int got) {
        if (got != want) {
            wrong++;
            System.out.println("promise " + promise + ": " + what + " answered " + got + ", due is " + want);
        }
    }

    // ---- objects that several tests begin with ----

    /** Type 1 is a list of ints: constructor 0 is empty, constructor 1 is an int and a list. */
    private static ClauseMatrix lists() {
        ClauseMatrix x = new ClauseMatrix();
        x.type();
        x.constructor(1, -1, -1);
        x.constructor(1, 0, 1);
        x.begin(1);
        return x;
    }

    /** Type 1 has constructors 0 and 1 without arguments, type 2 is a pair (2) of them. */
    private static ClauseMatrix pairs() {
        ClauseMatrix x = new ClauseMatrix();
        x.type();
        x.constructor(1, -1, -1);
        x.constructor(1, -1, -1);
        x.type();
        x.constructor(2, 1, 1);
        x.begin(2);
        return x;
    }

    /** Type 1 has a node (0) of two of its own, and an end (1). */
    private static ClauseMatrix twigs() {
        ClauseMatrix x = new ClauseMatrix();
        x.type();
        x.constructor(1, 1, 1);
        x.constructor(1, -1, -1);
        x.begin(1);
        return x;
    }

    /** A match over INT with patterns 0 to n - 1 that are the numbers 0 to n - 1. */
    private static ClauseMatrix numbers(int n) {
        ClauseMatrix x = new ClauseMatrix();
        x.begin(0);
        for (int i = 0; i < n; i++) {
            x.number(i);
        }
        return x;
    }

    private static void dueWitness(ClauseMatrix x, int[][] kindsAndSymbols) {
        due("witnessLength", kindsAndSymbols.length, x.witnessLength());
        for (int i = 0; i < kindsAndSymbols.length; i++) {
            due("witnessKind " + i, kindsAndSymbols[i][0], x.witnessKind(i));
            due("witness " + i, kindsAndSymbols[i][1], x.witness(i));
        }
        for (int i : new int[] {-1, kindsAndSymbols.length, 31, 32, 1000, LEAST, GREATEST}) {
            if (i < 0 || i >= kindsAndSymbols.length) {
                due("witnessKind " + i, NONE, x.witnessKind(i));
                due("witness " + i, 0, x.witness(i));
            }
        }
    }

    private static void dueAsNew(ClauseMatrix x) {
        due("compile", NOMATCH, x.compile());
        due("kinds", NOTREE, x.kinds());
        due("longest", NOTREE, x.longest());
        due("useless", NOTREE, x.useless(0));
        due("witnessLength", NOTREE, x.witnessLength());
        due("witnessKind", NOTREE, x.witnessKind(0));
        due("witness", 0, x.witness(0));
        due("run", NOTREE, x.run(0));
        due("tests", 0, x.tests());
        due("row", NOMATCH, x.row(0));
        due("either", NOPATTERN, x.either(0, 0));
        due("build", NOCONSTRUCTOR, x.build(0, -1, -1));
        due("valueOf", NOCONSTRUCTOR, x.valueOf(0, -1, -1));
        due("constructor", NOTYPE, x.constructor(1, -1, -1));
        due("begin", NOTYPE, x.begin(1));
        due("type", 1, x.type());
        due("constructor", 0, x.constructor(1, 0, -1));
        due("build with no pattern", NOPATTERN, x.build(0, 0, -1));
        due("valueOf with no value", NOVALUE, x.valueOf(0, 0, -1));
        due("any", 0, x.any());
        due("valueNumber", 0, x.valueNumber(4));
        due("begin", 0, x.begin(1));
        due("useless without a tree", NOTREE, x.useless(0));
        due("row", 0, x.row(0));
        due("compile", 1, x.compile());
        due("useless", 0, x.useless(0));
        due("useless of no row", NONE, x.useless(1));
        due("run", ILLTYPED, x.run(0));
        due("run of no value", NOVALUE, x.run(1));
    }

    // ---- the promises ----

    private static void promise01NewObject() {
        promise = 1;
        dueAsNew(new ClauseMatrix());
        ClauseMatrix one = new ClauseMatrix();
        ClauseMatrix other = new ClauseMatrix();
        one.type();
        due("type of another object", 1, other.type());
    }

    private static void promise02Clear() {
        promise = 2;
        ClauseMatrix x = new ClauseMatrix();
        x.clear();
        dueAsNew(x);
        x.clear();
        dueAsNew(x);
        x = lists();
        x.any();
        x.number(3);
        x.build(1, 1, 0);
        x.row(2);
        x.compile();
        x.valueOf(0, -1, -1);
        x.run(0);
        due("tests", 1, x.tests());
        x.clear();
        dueAsNew(x);
        clearForgetsWhatClausesAsked();
        clearMakesRoom();
    }

    private static void clearForgetsWhatClausesAsked() {
        ClauseMatrix x = numbers(3);
        x.row(0);
        x.row(1);
        x.row(2);
        due("compile", 5, x.compile());
        x.clear();
        x.begin(0);
        x.any();
        x.row(0);
        x.row(0);
        due("compile after clear", 1, x.compile());
        due("useless", 1, x.useless(1));
        due("witnessLength", 0, x.witnessLength());
    }

    private static void clearMakesRoom() {
        ClauseMatrix x = new ClauseMatrix();
        for (int round = 0; round < 2; round++) {
            for (int i = 0; i < 5; i++) {
                due("type", i + 1, x.type());
            }
            for (int i = 0; i < 12; i++) {
                due("constructor", i, x.constructor(1 + i % 5, -1, -1));
            }
            for (int i = 0; i < 60; i++) {
                due("any", i, x.any());
                due("valueNumber", i, x.valueNumber(i));
            }
            x.begin(0);
            for (int i = 0; i < 8; i++) {
                due("row", i, x.row(i));
            }
            x.clear();
        }
    }

    private static void promise03Type() {
        promise = 3;
        ClauseMatrix x = new ClauseMatrix();
        for (int i = 1; i <= 5; i++) {
            due("type", i, x.type());
        }
        due("sixth type", FULL, x.type());
        due("sixth type again", FULL, x.type());
        due("constructor of the fifth", 0, x.constructor(5, -1, -1));
        due("constructor of a sixth", NOTYPE, x.constructor(6, -1, -1));
        for (int i = 1; i <= 4; i++) {
            x.constructor(i, -1, -1);
        }
        due("begin", 0, x.begin(5));
        due("type when closed and full", CLOSED, x.type());
        ClauseMatrix y = new ClauseMatrix();
        due("begin refused", NOTYPE, y.begin(1));
        due("type after a refused begin", 1, y.type());
        due("begin refused", EMPTY, y.begin(1));
        due("type after an empty begin", 2, y.type());
        ClauseMatrix z = new ClauseMatrix();
        z.begin(0);
        due("type when closed", CLOSED, z.type());
    }

    private static void promise04Constructor() {
        promise = 4;
        ClauseMatrix x = new ClauseMatrix();
        x.type();
        x.type();
        for (int t : new int[] {0, -1, 3, LEAST, GREATEST}) {
            due("constructor of type " + t, NOTYPE, x.constructor(t, -1, -1));
        }
        for (int a : new int[] {-2, 3, LEAST, GREATEST}) {
            due("first argument " + a, NOTYPE, x.constructor(1, a, -1));
            due("first argument of two " + a, NOTYPE, x.constructor(1, a, 0));
            due("second argument " + a, NOTYPE, x.constructor(1, 0, a));
            due("second argument alone " + a, NOTYPE, x.constructor(1, -1, a));
        }
        due("second argument alone", NOTYPE, x.constructor(1, -1, 0));
        due("no argument", 0, x.constructor(1, -1, -1));
        due("one argument", 1, x.constructor(2, 0, -1));
        due("two arguments", 2, x.constructor(1, 2, 1));
        due("its own type", 3, x.constructor(1, 1, -1));
        due("fourth of type 1", 4, x.constructor(1, 2, 2));
        due("fifth of type 1", FULL, x.constructor(1, -1, -1));
        due("fifth of type 1 with a wrong argument", NOTYPE, x.constructor(1, 7, -1));
        due("another type", 5, x.constructor(2, 0, 0));
        due("begin", 0, x.begin(1));
        due("constructor when closed", CLOSED, x.constructor(2, -1, -1));
        due("constructor when closed, of no type", CLOSED, x.constructor(9, -1, 0));
        argumentsAreKept(x);
        twelveConstructors();
    }

    private static void argumentsAreKept(ClauseMatrix x) {
        x.any();
        x.number(1);
        due("build without arguments", 2, x.build(0, -1, -1));
        due("build of type 2", 3, x.build(1, 1, -1));
        due("build of two", 4, x.build(2, 3, 2));
        due("build of two the wrong way", ILLTYPED, x.build(2, 2, 3));
        due("build of two with the first missing", NOPATTERN, x.build(2, -1, 2));
    }

    private static void twelveConstructors() {
        ClauseMatrix x = new ClauseMatrix();
        for (int t = 1; t <= 4; t++) {
            x.type();
        }
        for (int i = 0; i < 12; i++) {
            due("constructor", i, x.constructor(1 + i / 4, -1, -1));
        }
        due("thirteenth constructor", FULL, x.constructor(4, -1, -1));
        due("thirteenth constructor of no type", NOTYPE, x.constructor(5, -1, -1));
        due("begin while type 4 has none", EMPTY, x.begin(1));
        due("the last constructor", 0, x.build(11, -1, -1));
        due("no such constructor", NOCONSTRUCTOR, x.build(12, -1, -1));
    }

    private static void promise05Begin() {
        promise = 5;
        ClauseMatrix x = new ClauseMatrix();
        for (int t : new int[] {-1, 1, LEAST, GREATEST}) {
            due("begin over " + t, NOTYPE, x.begin(t));
        }
        due("begin over INT", 0, x.begin(0));
        due("begin again", CLOSED, x.begin(0));
        due("begin again over no type", CLOSED, x.begin(-1));
        ClauseMatrix y = new ClauseMatrix();
        y.type();
        due("begin over INT with an empty type", EMPTY, y.begin(0));
        due("begin over no type with an empty type", NOTYPE, y.begin(2));
        due("row after a refused begin", NOMATCH, y.row(0));
        due("constructor", 0, y.constructor(1, 1, 0));
        due("begin over a type that needs itself", EMPTY, y.begin(1));
        due("constructor", 1, y.constructor(1, 0, -1));
        due("begin", 0, y.begin(1));
        emptyTypesInAChain();
        bothArgumentsNeedValues();
    }

    private static void emptyTypesInAChain() {
        ClauseMatrix x = new ClauseMatrix();
        for (int i = 0; i < 5; i++) {
            x.type();
        }
        x.constructor(1, 2, -1);
        x.constructor(2, 3, 3);
        x.constructor(3, 0, 4);
        x.constructor(4, 5, 0);
        x.constructor(5, 1, -1);
        due("begin over a ring of types", EMPTY, x.begin(1));
        x.constructor(5, -1, -1);
        due("begin when values come from the last type", 0, x.begin(1));
    }

    private static void bothArgumentsNeedValues() {
        ClauseMatrix x = new ClauseMatrix();
        x.type();
        x.type();
        x.constructor(1, -1, -1);
        x.constructor(2, 1, 2);
        due("begin when the second argument has no value", EMPTY, x.begin(1));
        x.constructor(2, 2, 1);
        due("begin when the first argument has no value", EMPTY, x.begin(1));
        x.constructor(2, 1, 1);
        due("begin when both have", 0, x.begin(1));
    }

    private static void promise06Any() {
        promise = 6;
        ClauseMatrix x = new ClauseMatrix();
        for (int i = 0; i < 60; i++) {
            due("any", i, x.any());
        }
        due("any when full", FULL, x.any());
        due("number when full", FULL, x.number(0));
        due("either when full", FULL, x.either(0, 1));
        ClauseMatrix y = lists();
        due("any", 0, y.any());
        due("any fits INT and own types", 1, y.build(1, 0, 0));
        due("any fits the match", 0, y.row(0));
        due("compile", 1, y.compile());
        y.valueOf(0, -1, -1);
        due("run", 0, y.run(0));
    }

    private static void promise07Number() {
        promise = 7;
        ClauseMatrix x = new ClauseMatrix();
        for (int i = 0; i < 60; i++) {
            due("number", i, x.number(i - 30));
        }
        due("number when full", FULL, x.number(5));
        due("any when full", FULL, x.any());
        ClauseMatrix y = lists();
        due("number", 0, y.number(LEAST));
        due("number", 1, y.number(GREATEST));
        due("number fits no own type", ILLTYPED, y.row(0));
        due("any", 2, y.any());
        due("number fits INT", 3, y.build(1, 0, 2));
        due("number fits INT", 4, y.build(1, 1, 2));
        y.row(3);
        y.row(4);
        y.compile();
        y.valueOf(0, -1, -1);
        y.valueNumber(LEAST);
        y.valueNumber(GREATEST);
        y.valueNumber(0);
        for (int i = 1; i <= 3; i++) {
            due("valueOf", 3 + i, y.valueOf(1, i, 0));
        }
        due("run of the least int", 0, y.run(4));
        due("run of the greatest int", 1, y.run(5));
        due("run of another int", FAIL, y.run(6));
    }

    private static void promise08Build() {
        promise = 8;
        ClauseMatrix x = new ClauseMatrix();
        x.type();
        x.type();
        x.constructor(1, -1, -1);
        x.constructor(1, 2, -1);
        x.constructor(2, 0, 1);
        x.any();
        x.number(7);
        due("build without arguments", 2, x.build(0, -1, -1));
        for (int c : new int[] {-1, 3, LEAST, GREATEST}) {
            due("build of constructor " + c, NOCONSTRUCTOR, x.build(c, 99, 99));
        }
        for (int p : new int[] {0, 3, -2, LEAST, GREATEST}) {
            due("first where there is none: " + p, NOPATTERN, x.build(0, p, -1));
            due("second where there is none: " + p, NOPATTERN, x.build(0, -1, p));
            due("second where there is none: " + p, NOPATTERN, x.build(1, 0, p));
        }
        for (int p : new int[] {-1, 3, -2, LEAST, GREATEST}) {
            due("first that is no pattern: " + p, NOPATTERN, x.build(1, p, -1));
            due("first that is no pattern: " + p, NOPATTERN, x.build(2, p, 0));
            due("second that is no pattern: " + p, NOPATTERN, x.build(2, 0, p));
            due("first is illtyped, second no pattern: " + p, NOPATTERN, x.build(2, 2, p));
        }
        due("first of a wrong type", ILLTYPED, x.build(1, 1, -1));
        due("first of a wrong own type", ILLTYPED, x.build(1, 2, -1));
        due("first of a wrong type", ILLTYPED, x.build(2, 2, 2));
        due("second of a wrong type", ILLTYPED, x.build(2, 1, 1));
        due("build", 3, x.build(2, 1, 2));
        due("build", 4, x.build(1, 3, -1));
        due("build with open patterns", 5, x.build(2, 0, 0));
        due("the type of a build is its constructor's", ILLTYPED, x.build(2, 1, 5));
        due("an open either fits", 6, x.either(0, 0));
        due("build with an open either", 7, x.build(2, 6, 6));
        due("an either that is not open", 8, x.either(0, 1));
        due("build with it where it fits", 9, x.build(2, 8, 0));
        due("build with it where it does not", ILLTYPED, x.build(2, 0, 8));
    }

    private static void promise08BuildLimits() {
        promise = 8;
        ClauseMatrix x = twigs();
        due("depth 1", 0, x.build(1, -1, -1));
        due("depth 2", 1, x.build(0, 0, 0));
        due("depth 3", 2, x.build(0, 1, 0));
        due("depth 4", 3, x.build(0, 0, 2));
        due("depth 5 by the first", DEEP, x.build(0, 3, 0));
        due("depth 5 by the second", DEEP, x.build(0, 0, 3));
        due("either has the greatest depth", 4, x.either(0, 3));
        due("either has the greatest depth", 5, x.either(3, 0));
        due("either adds no depth", 6, x.either(2, 2));
        due("depth 5 by either", DEEP, x.build(0, 4, 0));
        due("depth 5 by either", DEEP, x.build(0, 5, 0));
        due("depth 4 by either", 7, x.build(0, 6, 6));
        due("three", 8, x.either(6, 0));
        due("nine alternatives", MANY, x.build(0, 8, 8));
        due("six alternatives", 9, x.build(0, 8, 6));
        due("four", 10, x.either(6, 6));
        due("eight alternatives", 11, x.build(0, 10, 6));
        due("either with eight and one", MANY, x.either(11, 0));
        due("either with six and two", 12, x.either(9, 6));
        due("either with six and three", MANY, x.either(9, 8));
        due("twelve alternatives and depth 5", DEEP, x.build(0, 9, 6));
        due("any", 13, x.any());
        due("an any is of depth 1", 14, x.build(0, 13, 13));
        due("twice", 15, x.build(0, 14, 13));
        due("thrice", 16, x.build(0, 15, 13));
        due("four times", DEEP, x.build(0, 16, 13));
        for (int i = 17; i < 60; i++) {
            due("build", i, x.build(1, -1, -1));
        }
        due("build when full", FULL, x.build(1, -1, -1));
        due("build of two when full", FULL, x.build(0, 0, 0));
        due("deep comes before full", DEEP, x.build(0, 3, 0));
        due("many comes before full", MANY, x.build(0, 8, 8));
        due("no pattern comes before full", NOPATTERN, x.build(0, 60, 0));
    }

    private static void promise09Either() {
        promise = 9;
        ClauseMatrix x = lists();
        x.any();
        x.number(1);
        x.build(0, -1, -1);
        for (int p : new int[] {-1, 3, LEAST, GREATEST}) {
            due("first is no pattern: " + p, NOPATTERN, x.either(p, 0));
            due("second is no pattern: " + p, NOPATTERN, x.either(0, p));
        }
        due("number and list", ILLTYPED, x.either(1, 2));
        due("list and number", ILLTYPED, x.either(2, 1));
        due("any and number", 3, x.either(0, 1));
        due("number and any", 4, x.either(1, 0));
        due("any and list", 5, x.either(0, 2));
        due("list and any", 6, x.either(2, 0));
        due("any and any", 7, x.either(0, 0));
        due("typed by the second", ILLTYPED, x.either(3, 2));
        due("typed by the first", ILLTYPED, x.either(4, 5));
        due("open", 8, x.either(7, 1));
        due("open", 9, x.either(7, 2));
        due("row of INT", ILLTYPED, x.row(3));
        due("row of lists", 0, x.row(5));
        due("four of INT", 10, x.either(3, 4));
        due("eight of INT", 11, x.either(10, 10));
        due("nine of INT", MANY, x.either(11, 1));
        due("nine, the other way", MANY, x.either(1, 11));
        due("illtyped comes before many", ILLTYPED, x.either(11, 2));
        for (int i = 12; i < 60; i++) {
            due("either", i, x.either(0, 0));
        }
        due("either when full", FULL, x.either(0, 0));
        due("many comes before full", MANY, x.either(11, 1));
        due("illtyped comes before full", ILLTYPED, x.either(1, 2));
        due("no pattern comes before full", NOPATTERN, x.either(0, 60));
    }

    private static void promise10Row() {
        promise = 10;
        ClauseMatrix x = new ClauseMatrix();
        x.number(1);
        due("row before a match", NOMATCH, x.row(0));
        due("row of no pattern before a match", NOMATCH, x.row(7));
        x = lists();
        x.any();
        x.number(1);
        x.build(0, -1, -1);
        for (int p : new int[] {-1, 3, LEAST, GREATEST}) {
            due("row of no pattern: " + p, NOPATTERN, x.row(p));
        }
        due("row of a wrong type", ILLTYPED, x.row(1));
        due("row", 0, x.row(2));
        due("compile", 3, x.compile());
        due("row of no pattern", NOPATTERN, x.row(3));
        due("row of a wrong type", ILLTYPED, x.row(1));
        due("a refused row keeps the tree", 3, x.kinds());
        due("row", 1, x.row(0));
        due("a row drops the tree", NOTREE, x.kinds());
        due("a row drops the tree", NOTREE, x.run(0));
        due("compile", 3, x.compile());
        due("the second row is there", 0, x.witnessLength());
    }

    private static void promise10RowLimits() {
        promise = 10;
        ClauseMatrix x = numbers(2);
        for (int i = 0; i < 8; i++) {
            due("row", i, x.row(0));
        }
        x.compile();
        due("ninth row", FULL, x.row(0));
        due("a refused row keeps the tree", 3, x.kinds());
        due("ninth row of no pattern", NOPATTERN, x.row(2));
        ClauseMatrix y = numbers(8);
        due("two", 8, y.either(0, 1));
        due("four", 9, y.either(8, 8));
        due("eight", 10, y.either(9, 9));
        due("row of eight", 0, y.row(10));
        due("row of four", 1, y.row(9));
        due("row of one", 2, y.row(0));
        due("row of four more, seventeen clauses", FULL, y.row(9));
        due("row of two", 3, y.row(8));
        due("row of two more, seventeen clauses", FULL, y.row(8));
        due("sixteenth clause", 4, y.row(7));
        due("seventeenth clause", FULL, y.row(0));
        due("compile", 5, y.compile());
        due("useless", 0xfc, y.useless(0));
        due("useless", 0, y.useless(4));
        y.valueNumber(7);
        due("run into the sixteenth clause", 4, y.run(0));
    }

    private static void promise11Compile() {
        promise = 11;
        ClauseMatrix x = new ClauseMatrix();
        due("compile before a match", NOMATCH, x.compile());
        x.begin(0);
        due("no rows", 1, x.compile());
        x.number(3);
        x.number(-3);
        x.any();
        x.row(0);
        due("a number", 3, x.compile());
        due("again", 3, x.compile());
        x.row(1);
        due("two numbers", 4, x.compile());
        x.row(0);
        due("one of them again", 4, x.compile());
        x.row(2);
        due("and any", 4, x.compile());
        ClauseMatrix y = lists();
        y.any();
        y.row(0);
        due("any alone", 1, y.compile());
        y.build(0, -1, -1);
        y.row(1);
        due("nothing is asked after any", 1, y.compile());
        ClauseMatrix z = lists();
        z.any();
        z.number(1);
        z.build(1, 1, 0);
        z.row(2);
        // The test of place 1, a FAIL for the empty list, the test of place 2 with two leaves.
        due("a test below a test", 5, z.compile());
    }

    private static void promise11ChoiceOfPlace() {
        promise = 11;
        ClauseMatrix x = pairsWithPatterns();
        x.row(x.build(2, 0, 1));
        x.row(x.build(2, 1, 0));
        x.row(x.build(2, 1, 0));
        due("place 3, at which alone the first clause asks", 6, x.compile());
        due("run of (B, A)", 0, x.run(x.valueOf(2, 1, 0)));
        due("place 3 was tested, and place 2 not", 2, x.tests());
        ClauseMatrix y = pairsWithPatterns();
        y.row(y.build(2, 1, 1));
        y.row(y.build(2, 0, 2));
        due("place 3, at which both ask", 6, y.compile());
        due("run of (A, B)", 1, y.run(y.valueOf(2, 0, 1)));
        due("place 3 was tested, and place 2 not", 2, y.tests());
        ClauseMatrix z = pairsWithPatterns();
        z.row(z.build(2, 1, 1));
        due("place 2, the lesser one", 6, z.compile());
        due("run of (B, A)", FAIL, z.run(z.valueOf(2, 1, 0)));
        due("place 2 was tested, and place 3 not", 2, z.tests());
        due("run of (A, B)", FAIL, z.run(z.valueOf(2, 0, 1)));
        due("both were tested", 3, z.tests());
    }

    /** Pairs with the patterns ANY (0), A (1), B (2) and the values A (0), B (1). */
    private static ClauseMatrix pairsWithPatterns() {
        ClauseMatrix x = pairs();
        x.any();
        x.build(0, -1, -1);
        x.build(1, -1, -1);
        x.valueOf(0, -1, -1);
        x.valueOf(1, -1, -1);
        return x;
    }

    /** Pairs of ints with ANY (0), the numbers 1 to 13 (1 to 13), and rows that make size 60. */
    private static ClauseMatrix justFitting() {
        ClauseMatrix x = new ClauseMatrix();
        x.type();
        x.constructor(1, 0, 0);
        x.begin(1);
        x.any();
        for (int i = 1; i <= 13; i++) {
            x.number(i);
        }
        int eight = 1;
        for (int i = 2; i <= 8; i++) {
            eight = x.either(eight, i);
        }
        int five = 9;
        for (int i = 10; i <= 13; i++) {
            five = x.either(five, i);
        }
        x.row(x.build(0, eight, 1));
        x.row(x.build(0, five, 1));
        x.row(x.build(0, 0, x.number(100)));
        x.row(x.build(0, x.number(200), 0));
        return x;
    }

    private static void promise11TooBig() {
        promise = 11;
        ClauseMatrix x = justFitting();
        due("size 60", 60, x.compile());
        x.valueNumber(13);
        x.valueNumber(1);
        due("run of (13, 1)", 1, x.run(x.valueOf(0, 0, 1)));
        due("tests", 3, x.tests());
        // One leaf more, below the branch of number 1.
        x.row(x.build(0, 1, 2));
        due("size 61", TOOBIG, x.compile());
        dueNoTree(x);
        due("tests of the latest run", 3, x.tests());
        due("size 61 again", TOOBIG, x.compile());
        due("the rows are kept", FULL, x.row(x.either(0, 0)));
        ClauseMatrix y = justFitting();
        due("compile", 60, y.compile());
        y.row(0);
        due("size 60, no FAIL", 60, y.compile());
        due("witnessLength", 0, y.witnessLength());
        hugeTree();
    }

    private static void dueNoTree(ClauseMatrix x) {
        due("kinds", NOTREE, x.kinds());
        due("longest", NOTREE, x.longest());
        due("useless", NOTREE, x.useless(0));
        due("useless of no row", NOTREE, x.useless(99));
        due("witnessLength", NOTREE, x.witnessLength());
        due("witnessKind", NOTREE, x.witnessKind(0));
        due("witnessKind of no symbol", NOTREE, x.witnessKind(-1));
        due("witness", 0, x.witness(0));
        due("run", NOTREE, x.run(0));
        due("run of no value", NOTREE, x.run(-1));
    }

    /** Each row asks at one way of its own down to place 8 .. 15, so that nearly all is tested. */
    private static void hugeTree() {
        ClauseMatrix x = twigs();
        x.any();
        x.build(1, -1, -1);
        for (int way = 0; way < 8; way++) {
            int p = 1;
            for (int bit = 0; bit < 3; bit++) {
                boolean second = (way >> bit & 1) == 1;
                p = x.build(0, second ? 0 : p, second ? p : 0);
            }
            due("row", way, x.row(p));
        }
        due("a huge tree", TOOBIG, x.compile());
        dueNoTree(x);
    }

    private static void promise12Kinds() {
        promise = 12;
        ClauseMatrix x = new ClauseMatrix();
        due("no match", NOTREE, x.kinds());
        x.begin(0);
        due("not compiled", NOTREE, x.kinds());
        x.compile();
        due("FAIL alone", 1, x.kinds());
        ClauseMatrix y = triples();
        y.row(y.build(3, 1, 0));
        y.row(y.build(3, 0, 4));
        due("size", 9, y.compile());
        due("two tests are alike, and FAIL is one kind", 6, y.kinds());
        due("kinds again", 6, y.kinds());
        y.row(0);
        due("size", 9, y.compile());
        due("no FAIL", 6, y.kinds());
        kindsHeedNumbers();
        kindsHeedClauses();
        kindsOfANewTree();
        ClauseMatrix z = justFitting();
        z.compile();
        due("kinds of size 60", 33, z.kinds());
    }

    /**
     * Constructors 0, 1, 2 of type 1 without arguments; 3 is a pair of one of them and an int.
     * The patterns are ANY, the constructors 0 to 2 (1 to 3), and the numbers 1, 5, 6 (4 to 6).
     */
    private static ClauseMatrix triples() {
        ClauseMatrix x = new ClauseMatrix();
        x.type();
        for (int i = 0; i < 3; i++) {
            x.constructor(1, -1, -1);
        }
        x.type();
        x.constructor(2, 1, 0);
        x.begin(2);
        x.any();
        for (int i = 0; i < 3; i++) {
            x.build(i, -1, -1);
        }
        x.number(1);
        x.number(5);
        x.number(6);
        return x;
    }

    private static void kindsHeedNumbers() {
        for (int second = 5; second <= 6; second++) {
            ClauseMatrix x = triples();
            x.row(x.build(3, 3, 0));
            x.row(x.build(3, 0, 4));
            x.row(x.build(3, 0, 0));
            x.row(x.build(3, 1, 5));
            x.row(x.build(3, 2, second));
            due("size", 11, x.compile());
            due("tests of the same place with other numbers", second == 5 ? 6 : 7, x.kinds());
        }
    }

    /** What stood in the former tree, where now a leaf stands, has no part in the answer. */
    private static void kindsOfANewTree() {
        ClauseMatrix x = twigsToTheDeepest();
        x.compile();
        due("nodes, leaves and FAIL", 15 + 8 + 1, x.kinds());
        x.clear();
        x.type();
        for (int i = 0; i < 4; i++) {
            x.constructor(1, -1, -1);
        }
        x.begin(1);
        x.row(x.build(3, -1, -1));
        due("size", 5, x.compile());
        due("a test, a leaf and FAIL", 3, x.kinds());
    }

    /** The same row, but two clauses, and so two kinds. */
    private static void kindsHeedClauses() {
        ClauseMatrix x = numbers(2);
        x.row(x.either(0, 1));
        due("size", 4, x.compile());
        due("leaves of two clauses of one row", 4, x.kinds());
        ClauseMatrix y = triples();
        y.row(y.build(3, y.either(1, 2), 4));
        due("size", 9, y.compile());
        due("tests with leaves of two clauses of one row", 7, y.kinds());
    }

    private static void promise13Longest() {
        promise = 13;
        ClauseMatrix x = new ClauseMatrix();
        due("no match", NOTREE, x.longest());
        x.begin(0);
        due("not compiled", NOTREE, x.longest());
        x.compile();
        due("a leaf", 0, x.longest());
        x.row(x.number(4));
        due("a row came", NOTREE, x.longest());
        x.compile();
        due("a test", 1, x.longest());
        ClauseMatrix y = pairsWithPatterns();
        y.row(y.build(2, 1, 1));
        y.compile();
        due("three tests", 3, y.longest());
        ClauseMatrix z = twigsToTheDeepest();
        due("size", 31, z.compile());
        due("fifteen tests", 15, z.longest());
        longestByOtherNumbers();
    }

    /** Rows (1, _) and (_, 1): place 3 is tested below the branch of the other numbers alone. */
    private static void longestByOtherNumbers() {
        ClauseMatrix x = new ClauseMatrix();
        x.type();
        x.constructor(1, 0, 0);
        x.begin(1);
        int any = x.any();
        int one = x.number(1);
        x.row(x.build(0, one, any));
        x.row(x.build(0, any, one));
        due("size", 6, x.compile());
        due("three tests", 3, x.longest());
        int two = x.valueNumber(2);
        due("run of (2, 2)", FAIL, x.run(x.valueOf(0, two, two)));
        due("three tests", 3, x.tests());
    }

    /** Row k has nodes at the places 1 to 7 and an end at place 8 + k; the value 0 is an end. */
    private static ClauseMatrix twigsToTheDeepest() {
        ClauseMatrix x = twigs();
        int any = x.any();
        int end = x.build(1, -1, -1);
        int node = x.build(0, any, any);
        int nodes = x.build(0, node, node);
        for (int k = 0; k < 8; k++) {
            int low = x.build(0, (k & 1) == 0 ? end : any, (k & 1) == 0 ? any : end);
            int middle = x.build(0, (k & 2) == 0 ? low : node, (k & 2) == 0 ? node : low);
            x.row(x.build(0, (k & 4) == 0 ? middle : nodes, (k & 4) == 0 ? nodes : middle));
        }
        x.valueOf(1, -1, -1);
        return x;
    }

    private static void promise14Useless() {
        promise = 14;
        ClauseMatrix x = numbers(4);
        due("not compiled", NOTREE, x.useless(0));
        int pair = x.either(1, 2);
        x.row(pair);
        x.row(x.either(x.either(2, 3), x.either(1, 0)));
        due("not compiled, and no such row", NOTREE, x.useless(2));
        x.compile();
        due("all of use", 0, x.useless(0));
        due("alternatives 0 and 2 of no use", 5, x.useless(1));
        for (int r : new int[] {-1, 2, 8, LEAST, GREATEST}) {
            due("no row " + r, NONE, x.useless(r));
        }
        x.row(pair);
        due("a row came", NOTREE, x.useless(0));
        x.compile();
        due("the whole row of no use", 3, x.useless(2));
        eightUseless();
        uselessBehindAny();
    }

    private static void eightUseless() {
        ClauseMatrix x = new ClauseMatrix();
        x.begin(0);
        x.any();
        int eight = 0;
        for (int i = 0; i < 7; i++) {
            eight = x.either(eight, 0);
        }
        x.row(eight);
        x.row(eight);
        due("size", 1, x.compile());
        due("all but the first", 0xfe, x.useless(0));
        due("all eight", 0xff, x.useless(1));
    }

    /** Two rows together leave nothing for a third, though neither does alone. */
    private static void uselessBehindAny() {
        ClauseMatrix x = pairsWithPatterns();
        x.row(x.build(2, 1, 0));
        x.row(x.build(2, 2, 0));
        x.row(x.build(2, 0, 1));
        x.row(0);
        x.compile();
        due("row 0", 0, x.useless(0));
        due("row 1", 0, x.useless(1));
        due("row 2", 1, x.useless(2));
        due("row 3", 1, x.useless(3));
    }

    private static void promise14OrderOfAlternatives() {
        promise = 14;
        ClauseMatrix x = pairsWithPatterns();
        int both = x.either(1, 2);
        x.row(x.build(2, 1, 2));
        x.row(x.build(2, both, both));
        x.compile();
        due("(A, A), (A, B), (B, A), (B, B) without (A, B)", 2, x.useless(1));
        ClauseMatrix y = triples();
        int three = y.either(1, y.either(2, 3));
        int two = y.either(5, 6);
        y.row(y.build(3, 2, 6));
        y.row(y.build(3, 3, 5));
        y.row(y.build(3, three, two));
        y.compile();
        due("the fourth and the fifth of six", 8 + 16, y.useless(2));
        ClauseMatrix z = twigs();
        z.any();
        int end = z.build(1, -1, -1);
        int node = z.build(0, 0, 0);
        int either = z.either(end, node);
        int low = z.build(0, either, either);
        z.row(z.build(0, z.build(0, end, node), node));
        z.row(z.build(0, low, either));
        z.compile();
        due("eight with the fourth of no use", 8, z.useless(1));
    }

    private static void promise15To17Witness() {
        promise = 15;
        ClauseMatrix x = new ClauseMatrix();
        dueNoTree(x);
        x.begin(0);
        dueNoTree(x);
        x.compile();
        dueWitness(x, new int[][] {{0, 0}});
        x.row(x.number(0));
        dueNoTree(x);
        x.compile();
        dueWitness(x, new int[][] {{1, 1}});
        x.row(x.either(x.number(3), x.number(1)));
        x.row(x.number(-1));
        x.compile();
        dueWitness(x, new int[][] {{1, 2}});
        x.row(x.number(2));
        x.compile();
        dueWitness(x, new int[][] {{1, 4}});
        sixteenNumbers();
        numberOfABranch();
        firstFailIsFirstFromTheLeft();
    }

    private static void sixteenNumbers() {
        ClauseMatrix x = numbers(16);
        int low = 15;
        int high = 7;
        for (int i = 14; i >= 8; i--) {
            low = x.either(low, i);
        }
        for (int i = 6; i >= 0; i--) {
            high = x.either(high, i);
        }
        x.row(low);
        x.row(high);
        due("size", 18, x.compile());
        dueWitness(x, new int[][] {{1, 16}});
    }

    /** The way to the first FAIL goes by the branches of the numbers. */
    private static void numberOfABranch() {
        ClauseMatrix x = new ClauseMatrix();
        x.type();
        x.constructor(1, 0, 0);
        x.begin(1);
        x.row(x.build(0, x.number(LEAST), x.number(GREATEST)));
        x.row(x.build(0, x.number(-7), x.any()));
        x.compile();
        dueWitness(x, new int[][] {{2, 0}, {1, LEAST}, {1, 0}});
        x.row(x.build(0, x.number(LEAST), x.any()));
        x.compile();
        dueWitness(x, new int[][] {{2, 0}, {1, 0}, {0, 0}});
    }

    private static void firstFailIsFirstFromTheLeft() {
        ClauseMatrix x = twigs();
        x.any();
        x.build(1, -1, -1);
        x.row(x.build(0, 1, 0));
        x.compile();
        dueWitness(x, new int[][] {{2, 0}, {2, 0}, {0, 0}, {0, 0}, {0, 0}});
        x.row(x.build(0, 0, 0));
        x.compile();
        dueWitness(x, new int[][] {{2, 1}});
    }

    private static void promise15To17DeepWitness() {
        promise = 16;
        ClauseMatrix x = twigsToTheDeepest();
        x.compile();
        int[][] want = new int[31][];
        fillFullTwig(want, 0, 1);
        dueWitness(x, want);
        ClauseMatrix y = new ClauseMatrix();
        y.type();
        y.constructor(1, 0, -1);
        y.constructor(1, 1, -1);
        y.begin(1);
        int p = y.build(0, y.any(), -1);
        p = y.build(1, p, -1);
        y.row(p);
        y.row(y.build(0, y.number(0), -1));
        y.compile();
        dueWitness(y, new int[][] {{2, 0}, {1, 1}});
        y.row(y.build(0, 0, -1));
        y.compile();
        dueWitness(y, new int[][] {{2, 1}, {2, 1}, {0, 0}});
        anythingHasNoSymbol();
    }

    /** What the former witness had at a place has no part in the answer. */
    private static void anythingHasNoSymbol() {
        ClauseMatrix x = lists();
        int any = x.any();
        x.row(x.build(0, -1, -1));
        x.row(x.build(1, x.number(0), any));
        x.compile();
        dueWitness(x, new int[][] {{2, 1}, {1, 1}, {0, 0}});
        x.clear();
        x.type();
        x.constructor(1, -1, -1);
        x.constructor(1, 0, 1);
        x.begin(1);
        x.row(x.build(0, -1, -1));
        x.compile();
        dueWitness(x, new int[][] {{2, 1}, {0, 0}, {0, 0}});
    }

    private static int fillFullTwig(int[][] want, int from, int place) {
        want[from] = place < 16 ? new int[] {2, 0} : new int[] {0, 0};
        if (place >= 16) {
            return from + 1;
        }
        int second = fillFullTwig(want, from + 1, 2 * place);
        return fillFullTwig(want, second, 2 * place + 1);
    }

    private static void promise15To17NoWitness() {
        promise = 17;
        ClauseMatrix x = lists();
        x.row(x.build(0, -1, -1));
        x.compile();
        dueWitness(x, new int[][] {{2, 1}, {0, 0}, {0, 0}});
        x.row(x.any());
        due("no tree", 0, x.witness(0));
        x.compile();
        dueWitness(x, new int[][] {});
    }

    private static void promise18ValueNumber() {
        promise = 18;
        ClauseMatrix x = new ClauseMatrix();
        due("any", 0, x.any());
        for (int i = 0; i < 60; i++) {
            due("valueNumber", i, x.valueNumber(i == 0 ? LEAST : i == 1 ? GREATEST : i));
        }
        due("valueNumber when full", FULL, x.valueNumber(0));
        x.begin(0);
        x.row(x.number(LEAST));
        x.row(x.number(GREATEST));
        x.row(x.number(59));
        x.compile();
        due("run of the least int", 0, x.run(0));
        due("run of the greatest int", 1, x.run(1));
        due("run of 2", FAIL, x.run(2));
        due("run of the last value", 2, x.run(59));
        due("run of no value", NOVALUE, x.run(60));
    }

    private static void promise19ValueOf() {
        promise = 19;
        ClauseMatrix x = new ClauseMatrix();
        x.type();
        x.type();
        x.constructor(1, -1, -1);
        x.constructor(1, 2, -1);
        x.constructor(2, 0, 1);
        x.valueNumber(7);
        due("valueOf without arguments", 1, x.valueOf(0, -1, -1));
        for (int c : new int[] {-1, 3, LEAST, GREATEST}) {
            due("constructor " + c, NOCONSTRUCTOR, x.valueOf(c, 99, 99));
        }
        for (int v : new int[] {0, 2, -2, LEAST, GREATEST}) {
            due("first where there is none: " + v, NOVALUE, x.valueOf(0, v, -1));
            due("second where there is none: " + v, NOVALUE, x.valueOf(0, -1, v));
            due("second where there is none: " + v, NOVALUE, x.valueOf(1, 1, v));
        }
        for (int v : new int[] {-1, 2, -2, LEAST, GREATEST}) {
            due("first that is no value: " + v, NOVALUE, x.valueOf(1, v, -1));
            due("first that is no value: " + v, NOVALUE, x.valueOf(2, v, 1));
            due("second that is no value: " + v, NOVALUE, x.valueOf(2, 0, v));
            due("first is illtyped, second no value: " + v, NOVALUE, x.valueOf(2, 1, v));
        }
        due("first of a wrong type", ILLTYPED, x.valueOf(1, 0, -1));
        due("first of a wrong own type", ILLTYPED, x.valueOf(1, 1, -1));
        due("first of a wrong type", ILLTYPED, x.valueOf(2, 1, 1));
        due("second of a wrong type", ILLTYPED, x.valueOf(2, 0, 0));
        due("valueOf", 2, x.valueOf(2, 0, 1));
        due("valueOf", 3, x.valueOf(1, 2, -1));
        due("its type is its constructor's", ILLTYPED, x.valueOf(2, 0, 2));
        for (int i = 4; i < 60; i++) {
            due("a value nested deep", i, x.valueOf(i % 2 == 0 ? 2 : 1, i % 2 == 0 ? 0 : i - 1, i % 2 == 0 ? i - 1 : -1));
        }
        due("valueOf when full", FULL, x.valueOf(0, -1, -1));
        due("illtyped comes before full", ILLTYPED, x.valueOf(1, 0, -1));
        due("no value comes before full", NOVALUE, x.valueOf(1, 60, -1));
        due("valueNumber when full", FULL, x.valueNumber(1));
        due("patterns have numbers of their own", 0, x.any());
        due("begin", 0, x.begin(1));
        due("row", 0, x.row(0));
        due("compile", 1, x.compile());
        due("run of a value nested deep", 0, x.run(59));
        due("run of a value of type 2", ILLTYPED, x.run(58));
    }

    private static void promise20Run() {
        promise = 20;
        ClauseMatrix x = lists();
        x.valueOf(0, -1, -1);
        x.valueNumber(7);
        x.valueOf(1, 1, 0);
        x.valueOf(1, 1, 2);
        x.valueNumber(8);
        x.valueOf(1, 4, 3);
        due("not compiled", NOTREE, x.run(0));
        due("not compiled, and no value", NOTREE, x.run(9));
        x.compile();
        due("no rows", FAIL, x.run(0));
        x.any();
        x.number(7);
        x.build(0, -1, -1);
        x.row(x.build(1, 1, x.build(1, 0, 0)));
        x.row(x.either(2, x.build(1, 1, 2)));
        due("a row came", NOTREE, x.run(0));
        x.compile();
        due("empty", 1, x.run(0));
        due("7", 1, x.run(2));
        due("7 7", 0, x.run(3));
        due("8 7 7", FAIL, x.run(5));
        for (int v : new int[] {-1, 6, LEAST, GREATEST}) {
            due("no value " + v, NOVALUE, x.run(v));
        }
        due("an int", ILLTYPED, x.run(1));
        due("the first row that fits", 2, x.row(0));
        x.compile();
        due("8 7 7", 2, x.run(5));
        due("7 7", 0, x.run(3));
        deepRuns();
    }

    private static void deepRuns() {
        ClauseMatrix x = twigsToTheDeepest();
        x.compile();
        x.valueOf(0, 0, 0);
        int low = x.valueOf(0, 1, 1);
        int middle = x.valueOf(0, low, low);
        due("all nodes at the places 1 to 15", FAIL, x.run(x.valueOf(0, middle, middle)));
        due("tests", 15, x.tests());
        int lowWithEnd = x.valueOf(0, 1, 0);
        int mixed = x.valueOf(0, low, lowWithEnd);
        due("an end at place 15", 7, x.run(x.valueOf(0, middle, mixed)));
        due("tests", 15, x.tests());
        due("an end at place 11", 3, x.run(x.valueOf(0, mixed, mixed)));
        due("tests", 11, x.tests());
        due("an end at place 1", FAIL, x.run(0));
        due("tests", 1, x.tests());
        due("an end at place 3", FAIL, x.run(x.valueOf(0, middle, 0)));
        due("tests", 3, x.tests());
    }

    private static void promise21Tests() {
        promise = 21;
        ClauseMatrix x = lists();
        due("no run", 0, x.tests());
        x.valueOf(0, -1, -1);
        x.valueNumber(7);
        x.valueOf(1, 1, 0);
        due("refused", NOTREE, x.run(0));
        due("no run", 0, x.tests());
        x.any();
        x.row(x.build(1, x.number(7), 0));
        x.compile();
        due("run", 0, x.run(2));
        due("two tests", 2, x.tests());
        due("refused", NOVALUE, x.run(3));
        due("refused", ILLTYPED, x.run(1));
        due("still two tests", 2, x.tests());
        due("run", FAIL, x.run(0));
        due("a FAIL counts", 1, x.tests());
        due("run", 0, x.run(2));
        x.row(0);
        due("a row changes nothing", 2, x.tests());
        x.compile();
        due("compile changes nothing", 2, x.tests());
        due("refused", NOVALUE, x.run(9));
        due("still two tests", 2, x.tests());
        x.clear();
        due("clear", 0, x.tests());
        x.begin(0);
        x.compile();
        x.valueNumber(1);
        due("run", FAIL, x.run(0));
        due("a leaf needs no test", 0, x.tests());
    }
}
