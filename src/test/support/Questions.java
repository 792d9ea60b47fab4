import java.util.List;

/** Runs of calls whose answers, taken together, tell all that can be seen of an object. */
final class Questions {
    private static final String OF_THE_TREE = """
        tests; kinds; longest; useless {-1..8}
        witnessLength; witnessKind {-1..31}; witness {-1..31}
        """;
    private static final String OF_TREE_AND_RUNS = OF_THE_TREE + runs();

    private Questions() {
    }

    static List<String> all() {
        return List.of(
            OF_TREE_AND_RUNS,
            "compile\n" + OF_TREE_AND_RUNS,
            "begin {0..6}; row {0..59}; compile\n" + OF_TREE_AND_RUNS,
            "type\n".repeat(6) + "constructor {0..6} -1 -1\n".repeat(5) + "begin {0..6}",
            "constructor {1|2} {-1|0|5} {-1|1|4}; begin 1; compile",
            "any\n".repeat(61) + "valueNumber 0\n".repeat(61),
            "either {-1..60} {0|1|2}",
            "build {-1..12} {-1..2} {-1..2}",
            "valueOf {-1..12} {-1..2} {-1..2}");
    }

    private static String runs() {
        StringBuilder all = new StringBuilder("run -1; tests\n");
        for (int v = 0; v < 60; v++) {
            all.append("run ").append(v).append("; tests\n");
        }
        return all.toString();
    }
}
