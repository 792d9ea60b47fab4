import java.util.ArrayList;
import java.util.List;

/**
 * Runs of calls written down as text, each run on a new object, under the sentence of the document
 * that it tests. The calls of a run stand on lines, or between semicolons; behind // is a remark.
 *
 * <pre>
 *   type = 1                     one call and the answer that is due
 *   any = 0..59                  sixty calls, which answer 0, 1, .. 59
 *   number # = 0..3              the same, with the answer due as the argument too
 *   begin {-1|2..4|MIN} = NOTYPE a call for each of the arguments -1, 2, 3, 4 and the least int
 *   row 0                        a call whose answer is 0 or more, whatever it is
 * </pre>
 */
final class Script {
    private static final int MOST_CALLS = 512;
    private static final int MOST_FAULTS_TOLD = 20;
    private static final String[] CODES = {
        "FAIL", "CLOSED", "NOTYPE", "NOCONSTRUCTOR", "NOPATTERN", "NOVALUE", "ILLTYPED", "FULL", "DEEP",
        "MANY", "EMPTY", "NOMATCH", "NOTREE", "TOOBIG", "NONE",
    };

    private static int sentences = 0;
    private static int calls = 0;
    private static int wrong = 0;
    private static String latest = "";

    private final ClauseMatrix x = new ClauseMatrix();
    private final List<String> told = new ArrayList<>();
    private final List<Integer> answers = new ArrayList<>();
    private final boolean heeding;
    private int firstWrong = -1;

    private Script(boolean heeding) {
        this.heeding = heeding;
    }

    /** The sentence of the document that the runs test which follow. */
    static void says(String where, String sentence) {
        latest = where + ", \"" + sentence + "\"";
        sentences++;
    }

    /** One run on a new object: the texts, one after the other. */
    static void run(String... texts) {
        Script script = new Script(true);
        for (String text : texts) {
            script.play(text);
        }
        script.end();
    }

    /** Whether two objects, each with calls of its own behind it, answer all questions alike. */
    static void alike(String one, String other, List<String> questions) {
        run(one);
        run(other);
        for (String question : questions) {
            List<Integer> due = answersTo(question, one);
            List<Integer> got = answersTo(question, other);
            if (!got.equals(due)) {
                fault("after " + other + " the answers to\n" + question + "\nare " + got + "\ninstead of " + due);
            }
        }
    }

    private static List<Integer> answersTo(String question, String before) {
        Script script = new Script(false);
        script.play(before);
        script.answers.clear();
        script.play(question);
        script.end();
        return script.answers;
    }

    static void finish() {
        System.out.println(sentences + " sentences, " + calls + " calls");
        System.out.println(wrong == 0 ? "all answers are as due" : wrong + " runs are not as due");
        if (wrong != 0 || calls == 0) {
            System.exit(1);
        }
    }

    private static void fault(String what) {
        wrong++;
        if (wrong <= MOST_FAULTS_TOLD) {
            System.out.println(latest + ": " + what);
        }
    }

    private void end() {
        calls += answers.size();
        if (told.size() > MOST_CALLS) {
            fault("a run of " + told.size() + " calls tells nothing");
        }
        if (firstWrong >= 0) {
            fault("\n  " + String.join("\n  ", told.subList(0, firstWrong + 1)));
        }
    }

    private void play(String text) {
        for (String line : text.split("\n")) {
            for (String call : line.replaceAll("//.*", "").split(";")) {
                if (!call.isBlank()) {
                    playCall(call.trim());
                }
            }
        }
    }

    private void playCall(String call) {
        String[] sides = call.split(" = ");
        String due = sides.length > 1 ? sides[1].trim() : "";
        int dots = due.indexOf("..");
        if (dots < 0) {
            playWithArguments(sides[0].trim(), due);
            return;
        }
        int last = Integer.parseInt(due.substring(dots + 2));
        for (int i = Integer.parseInt(due.substring(0, dots)); i <= last; i++) {
            playWithArguments(sides[0].trim().replace("#", "" + i), "" + i);
        }
    }

    /** Takes the first set of arguments apart, and then, call by call, the next ones. */
    private void playWithArguments(String call, String due) {
        int begin = call.indexOf('{');
        if (begin < 0) {
            playPlain(call, due);
            return;
        }
        int end = call.indexOf('}');
        for (String one : call.substring(begin + 1, end).split("\\|")) {
            String[] range = one.split("\\.\\.");
            int low = number(range[0]);
            int high = number(range[range.length - 1]);
            for (long i = low; i <= high; i++) {
                playWithArguments(call.substring(0, begin) + i + call.substring(end + 1), due);
            }
        }
    }

    private void playPlain(String call, String due) {
        String[] words = call.split(" +");
        int[] a = new int[words.length - 1];
        for (int i = 0; i < a.length; i++) {
            a[i] = number(words[i + 1]);
        }
        int got = answer(words[0], a);
        answers.add(got);
        boolean good = !heeding || (due.isEmpty() ? got >= 0 : got == number(due));
        if (!good && firstWrong < 0) {
            firstWrong = told.size();
        }
        told.add(call + " answered " + got + (good ? "" : ", due is " + (due.isEmpty() ? "no refusal" : due)));
    }

    private static int number(String word) {
        for (int i = 0; i < CODES.length; i++) {
            if (CODES[i].equals(word)) {
                return -1 - i;
            }
        }
        return switch (word) {
            case "MIN" -> Integer.MIN_VALUE;
            case "MAX" -> Integer.MAX_VALUE;
            default -> Integer.parseInt(word);
        };
    }

    private int answer(String name, int[] a) {
        return switch (name + " " + a.length) {
            case "clear 0" -> {
                x.clear();
                yield 0;
            }
            case "type 0" -> x.type();
            case "constructor 3" -> x.constructor(a[0], a[1], a[2]);
            case "begin 1" -> x.begin(a[0]);
            case "any 0" -> x.any();
            case "number 1" -> x.number(a[0]);
            case "build 3" -> x.build(a[0], a[1], a[2]);
            case "either 2" -> x.either(a[0], a[1]);
            case "row 1" -> x.row(a[0]);
            case "compile 0" -> x.compile();
            case "kinds 0" -> x.kinds();
            case "longest 0" -> x.longest();
            case "useless 1" -> x.useless(a[0]);
            case "witnessLength 0" -> x.witnessLength();
            case "witnessKind 1" -> x.witnessKind(a[0]);
            case "witness 1" -> x.witness(a[0]);
            case "valueNumber 1" -> x.valueNumber(a[0]);
            case "valueOf 3" -> x.valueOf(a[0], a[1], a[2]);
            case "run 1" -> x.run(a[0]);
            case "tests 0" -> x.tests();
            default -> throw new IllegalArgumentException("no such call: " + name + " with " + a.length);
        };
    }
}
