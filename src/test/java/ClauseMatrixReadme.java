import java.io.File;
import java.io.IOException;
import java.lang.reflect.Field;
import java.lang.reflect.Method;
import java.lang.reflect.Modifier;
import java.net.URL;
import java.net.URLClassLoader;
import java.nio.file.Files;
import java.nio.file.Path;
import java.util.regex.Matcher;
import java.util.regex.Pattern;
import javax.tools.ToolProvider;

/**
 * Plays the example of README.md, and looks whether README.md tells of every call, with the refusals
 * that the document names in their order, and of every test.
 */
public final class ClauseMatrixReadme {
    private static final Path README = Path.of("README.md");
    private static final Path TESTS = Path.of("src/test/java");
    /** Each call with its refusals, in the document's order. */
    private static final String[] REFUSALS = {
        "clear", "type CLOSED FULL", "constructor CLOSED NOTYPE FULL", "begin CLOSED NOTYPE EMPTY", "any FULL",
        "number FULL", "build NOCONSTRUCTOR NOPATTERN ILLTYPED DEEP MANY FULL", "either NOPATTERN ILLTYPED MANY FULL",
        "row NOMATCH NOPATTERN ILLTYPED FULL", "compile NOMATCH TOOBIG", "kinds NOTREE", "longest NOTREE",
        "useless NOTREE NONE", "witnessLength NOTREE", "witnessKind NOTREE NONE", "witness", "valueNumber FULL",
        "valueOf NOCONSTRUCTOR NOVALUE ILLTYPED FULL", "run NOTREE NOVALUE ILLTYPED", "tests",
    };
    private static final Pattern CODE = Pattern.compile("\\b[A-Z]{4,}\\b");

    private static int wrong = 0;

    private ClauseMatrixReadme() {
    }

    public static void main(String[] args) throws IOException, ReflectiveOperationException {
        String readme = Files.readString(README);
        playExample(readme);
        callsAreTold(readme);
        refusalsAreTold(readme);
        testsAreTold(readme);
        System.out.println(wrong == 0 ? "README.md holds" : wrong + " faults of README.md");
        if (wrong != 0) {
            System.exit(1);
        }
    }

    private static void holds(boolean good, String what) {
        if (!good) {
            wrong++;
            System.out.println("not so: " + what);
        }
    }

    /** Called by the program that the example is made into. */
    public static void due(int want, int got, String call) {
        holds(got == want, call + " answers " + want + ", not " + got);
    }

    // ---- the example ----

    private static void playExample(String readme) throws IOException, ReflectiveOperationException {
        Matcher block = Pattern.compile("(?s)```java\n(.*?)```").matcher(readme);
        holds(block.find(), "there is an example");
        Path folder = Files.createTempDirectory("readme");
        Path source = folder.resolve("Example.java");
        Files.writeString(source, asProgram(block.group(1)));
        String classes = System.getProperty("java.class.path");
        int compiled = ToolProvider.getSystemJavaCompiler().run(null, System.out, System.out,
            "-cp", classes, "-d", folder.toString(), source.toString());
        holds(compiled == 0, "the example compiles");
        if (compiled == 0) {
            URL[] place = {folder.toUri().toURL()};
            try (URLClassLoader loader = new URLClassLoader(place)) {
                loader.loadClass("Example").getMethod("play").invoke(null);
            }
        }
        for (File file : folder.toFile().listFiles()) {
            Files.delete(file.toPath());
        }
        Files.delete(folder);
    }

    /** Where a remark begins with a number, that is the answer that is due to the call before it. */
    private static String asProgram(String example) {
        Pattern answered = Pattern.compile("(x\\..*\\)); +// (-?\\d+)\\b.*");
        StringBuilder program = new StringBuilder("public final class Example {\n    public static void play() {\n");
        int checked = 0;
        for (String line : example.split("\n")) {
            Matcher call = answered.matcher(line);
            if (call.matches()) {
                checked++;
                program.append("ClauseMatrixReadme.due(").append(call.group(2)).append(", ").append(call.group(1))
                    .append(", \"").append(call.group(1)).append("\");\n");
            } else {
                program.append(line).append('\n');
            }
        }
        holds(checked >= 10, "the example tells answers");
        return program.append("    }\n}\n").toString();
    }

    // ---- what is told ----

    /** A row of the table for the call; empty when there is none. */
    private static String rowOf(String readme, String call) {
        Matcher row = Pattern.compile("(?m)^\\| `" + call + "\\([a-z, ]*\\)` \\|.*$").matcher(readme);
        return row.find() ? row.group() : "";
    }

    private static void callsAreTold(String readme) {
        for (Method method : ClauseMatrix.class.getDeclaredMethods()) {
            if (Modifier.isPublic(method.getModifiers())) {
                String row = rowOf(readme, method.getName());
                holds(!row.isEmpty(), "the table has " + method.getName());
                String inside = row.replaceAll("^[^(]*\\(([^)]*)\\).*", "$1");
                int told = inside.isEmpty() ? 0 : inside.split(",").length;
                holds(told == method.getParameterCount(), "the table has the parameters of " + method.getName());
            }
        }
        for (Field field : ClauseMatrix.class.getDeclaredFields()) {
            if (Modifier.isPublic(field.getModifiers())) {
                holds(readme.contains("`" + field.getName() + "`"), "README.md names " + field.getName());
            }
        }
    }

    private static void refusalsAreTold(String readme) {
        for (String line : REFUSALS) {
            String call = line.split(" ")[0];
            String row = rowOf(readme, call);
            String last = row.substring(row.lastIndexOf('|', row.length() - 2) + 1);
            StringBuilder told = new StringBuilder(call);
            Matcher named = CODE.matcher(last);
            while (named.find()) {
                told.append(' ').append(named.group());
            }
            holds(line.equals(told.toString()), "the table has the refusals " + line);
        }
    }

    private static void testsAreTold(String readme) {
        holds(readme.contains("\n.ci/run\n"), "README.md says how to run the tests");
        for (File file : TESTS.toFile().listFiles()) {
            String name = file.getName().replace(".java", "");
            holds(readme.contains("- `" + name + "` "), "README.md tells of " + name);
        }
    }
}
