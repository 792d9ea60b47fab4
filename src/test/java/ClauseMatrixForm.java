import java.io.IOException;
import java.lang.reflect.Constructor;
import java.lang.reflect.Field;
import java.lang.reflect.Method;
import java.lang.reflect.Modifier;
import java.nio.file.Files;
import java.nio.file.Path;
import java.util.ArrayList;
import java.util.Arrays;
import java.util.List;
import java.util.Random;
import java.util.Set;
import java.util.TreeSet;
import java.util.regex.Matcher;
import java.util.regex.Pattern;

/** Looks at the public face of the document and at those rules of LANGUAGE.md that are easily seen. */
public final class ClauseMatrixForm {
    private static final String SOURCE = "src/main/java/ClauseMatrix.java";
    private static final String[] CONSTANTS = {
        "FAIL", "CLOSED", "NOTYPE", "NOCONSTRUCTOR", "NOPATTERN", "NOVALUE", "ILLTYPED", "FULL", "DEEP",
        "MANY", "EMPTY", "NOMATCH", "NOTREE", "TOOBIG", "NONE",
    };
    private static final String[] METHODS = {
        "void clear 0", "int type 0", "int constructor 3", "int begin 1", "int any 0", "int number 1",
        "int build 3", "int either 2", "int row 1", "int compile 0", "int kinds 0", "int longest 0",
        "int useless 1", "int witnessLength 0", "int witnessKind 1", "int witness 1", "int valueNumber 1",
        "int valueOf 3", "int run 1", "int tests 0",
    };
    private static final Set<String> FORBIDDEN = Set.of(
        "throw", "throws", "try", "catch", "finally", "synchronized", "assert", "volatile", "native",
        "package", "protected", "yield", "var", "System", "Thread", "Random", "Object", "hashCode",
        "toString", "equals");

    /** Of what LANGUAGE.md allows of the library, what the program uses. */
    private static final Set<String> LIBRARY = Set.of("Arrays.fill(", "Math.max(", "Integer.bitCount(");

    private static int wrong = 0;

    private ClauseMatrixForm() {
    }

    public static void main(String[] args) throws IOException, ReflectiveOperationException {
        constantsAreThose();
        methodsAreThose();
        classesAreSmall();
        String code = withoutComments(Files.readString(Path.of(SOURCE)));
        wordsAreAllowed(code);
        libraryIsAllowed(code);
        objectsAreMadeWithTheObject(code);
        methodsAreShort(code);
        noCallThrows();
        System.out.println(wrong == 0 ? "the form is kept" : wrong + " faults of form");
        if (wrong != 0) {
            System.exit(1);
        }
    }

    private static void holds(boolean good, String what) {
        if (!good) {
            wrong++;
            System.out.println("not so: " + what);
        }
    }

    private static void constantsAreThose() throws ReflectiveOperationException {
        List<String> seen = new ArrayList<>();
        for (Field field : ClauseMatrix.class.getDeclaredFields()) {
            int flags = field.getModifiers();
            if (Modifier.isPublic(flags)) {
                seen.add(field.getName());
                holds(Modifier.isStatic(flags) && Modifier.isFinal(flags), field + " is a constant");
            } else {
                holds(Modifier.isPrivate(flags), field + " is private");
            }
        }
        holds(seen.equals(Arrays.asList(CONSTANTS)), "the constants are " + Arrays.toString(CONSTANTS));
        for (int i = 0; i < CONSTANTS.length; i++) {
            int value = ClauseMatrix.class.getField(CONSTANTS[i]).getInt(null);
            holds(value == -1 - i, CONSTANTS[i] + " is " + (-1 - i));
        }
    }

    private static void methodsAreThose() {
        Set<String> seen = new TreeSet<>();
        for (Method method : ClauseMatrix.class.getDeclaredMethods()) {
            int flags = method.getModifiers();
            if (Modifier.isPublic(flags)) {
                seen.add(method.getReturnType() + " " + method.getName() + " " + method.getParameterCount());
                holds(!Modifier.isStatic(flags), method + " is not static");
                for (Class<?> type : method.getParameterTypes()) {
                    holds(type == int.class, method + " takes ints");
                }
            } else {
                holds(Modifier.isPrivate(flags), method + " is private");
            }
        }
        holds(seen.equals(new TreeSet<>(Arrays.asList(METHODS))), "the methods are " + Arrays.toString(METHODS));
        Constructor<?>[] constructors = ClauseMatrix.class.getDeclaredConstructors();
        holds(constructors.length == 1 && Modifier.isPublic(constructors[0].getModifiers())
            && constructors[0].getParameterCount() == 0, "there is one constructor, public, without parameters");
        int flags = ClauseMatrix.class.getModifiers();
        holds(Modifier.isPublic(flags) && Modifier.isFinal(flags), "the class is public and final");
    }

    private static void classesAreSmall() {
        Class<?>[] inside = ClauseMatrix.class.getDeclaredClasses();
        holds(inside.length <= 11, "the file has at most twelve classes");
        for (Class<?> one : inside) {
            int flags = one.getModifiers();
            holds(Modifier.isStatic(flags), one + " is static");
            holds(!Modifier.isPublic(flags) && !Modifier.isProtected(flags), one + " is not public");
            holds(one.getDeclaredFields().length <= 20, one + " has at most twenty fields");
            for (Method method : one.getDeclaredMethods()) {
                holds(!isOfTheFace(method.getName()), method + " bears no name of the face");
                holds(method.getParameterCount() <= 7, method + " takes at most seven parameters");
            }
            for (Field field : one.getDeclaredFields()) {
                holds(!Modifier.isStatic(field.getModifiers()), field + " is not static");
            }
        }
    }

    private static boolean isOfTheFace(String name) {
        for (String method : METHODS) {
            if (method.split(" ")[1].equals(name)) {
                return true;
            }
        }
        return false;
    }

    private static String withoutComments(String text) {
        return text.replaceAll("(?s)/\\*.*?\\*/", "").replaceAll("//[^\n]*", "");
    }

    private static void wordsAreAllowed(String code) {
        Matcher words = Pattern.compile("[A-Za-z_]\\w*").matcher(code);
        while (words.find()) {
            holds(!FORBIDDEN.contains(words.group()), "the word " + words.group() + " is not used");
        }
        holds(!code.contains("->") && !code.contains("::"), "there is no lambda and no method reference");
        Matcher imports = Pattern.compile("import ([^;]*);").matcher(code);
        while (imports.find()) {
            holds(imports.group(1).equals("java.util.Arrays"), "only java.util.Arrays is imported");
        }
    }

    /** The rules name functions of the library, but none of its constants, such as the greatest long. */
    private static void libraryIsAllowed(String code) {
        String withoutImports = code.replaceAll("import [^;]*;", "");
        Matcher uses = Pattern.compile("\\b[A-Z]\\w*[a-z]\\w*\\.\\w+\\(?").matcher(withoutImports);
        while (uses.find()) {
            holds(LIBRARY.contains(uses.group()), uses.group() + " is allowed");
        }
    }

    /** No call makes an object or an array, so that a run of calls stays small however long it is. */
    private static void objectsAreMadeWithTheObject(String code) {
        for (String line : code.split("\n")) {
            if (line.matches(".*\\bnew\\b.*")) {
                boolean inField = line.matches(" +private final \\w+\\[] \\w+ = new (int|boolean)\\[[^]]*];");
                boolean inConstructor = line.matches(" {8}\\w+ = new [A-Z]\\w+\\([a-z, ]*\\);");
                holds(inField || inConstructor, "made with the object: " + line.trim());
            }
        }
    }

    private static void methodsAreShort(String code) {
        String[] lines = code.split("\n");
        int begin = 0;
        for (int i = 0; i < lines.length; i++) {
            if (lines[i].matches(" +[\\w ]+\\([^)]*\\) \\{") && indent(lines[i]) <= 8) {
                begin = i;
            } else if (lines[i].trim().equals("}") && indent(lines[i]) == indent(lines[begin])) {
                holds(i - begin < 60, "short: " + lines[begin].trim());
            }
        }
    }

    /** Whatever its arguments are and whatever came before it; beyond the 512th call, too. */
    private static void noCallThrows() throws ReflectiveOperationException {
        int[] odd = {-2, -1, 12, 16, 31, 32, 59, 60, Integer.MIN_VALUE, Integer.MAX_VALUE};
        Random random = new Random(7);
        for (int run = 0; run < 60; run++) {
            ClauseMatrix x = new ClauseMatrix();
            for (int call = 0; call < 3000; call++) {
                // Now and then all is cleared, so that states of every kind are met.
                String name = METHODS[random.nextInt(200) == 0 ? 0 : 1 + random.nextInt(METHODS.length - 1)].split(" ")[1];
                Method method = methodOfTheFace(name);
                Object[] arguments = new Object[method.getParameterCount()];
                for (int i = 0; i < arguments.length; i++) {
                    arguments[i] = random.nextInt(3) == 0 ? odd[random.nextInt(odd.length)] : random.nextInt(14) - 1;
                }
                method.invoke(x, arguments);
            }
        }
    }

    private static Method methodOfTheFace(String name) throws ReflectiveOperationException {
        for (Method method : ClauseMatrix.class.getMethods()) {
            if (method.getName().equals(name)) {
                return method;
            }
        }
        throw new NoSuchMethodException(name);
    }

    private static int indent(String line) {
        return line.length() - line.stripLeading().length();
    }
}
