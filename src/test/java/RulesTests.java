import java.io.IOException;
import java.lang.reflect.Constructor;
import java.lang.reflect.Field;
import java.lang.reflect.Method;
import java.lang.reflect.Modifier;
import java.nio.charset.StandardCharsets;
import java.nio.file.Files;
import java.nio.file.Path;
import java.util.ArrayList;
import java.util.Arrays;
import java.util.List;
import java.util.Set;
import java.util.TreeSet;
import java.util.regex.Matcher;
import java.util.regex.Pattern;

/** The face of the document, and those rules of LANGUAGE.md that can be looked up in the file. */
public final class RulesTests {
    private static final String[] FACE = {
        "int append(int,int,int,int,int) IllegalStateException",
        "int load(int) IllegalArgumentException",
        "int errorPosition() ",
        "int count(int) IllegalArgumentException",
        "int vertex(int,int) IndexOutOfBoundsException,IllegalArgumentException",
        "int reason(int,int) IndexOutOfBoundsException",
        "int part(int,int) IndexOutOfBoundsException,IllegalArgumentException",
        "int value() ",
        "int valueIf(int,int) IndexOutOfBoundsException,NoSuchElementException",
        "int winningMoves() ",
        "int bestMove() NoSuchElementException",
        "int longest() ",
        "int shortest() ",
        "float meanValue() ",
        "int winningColours(int) IndexOutOfBoundsException",
        "int falls(int) IndexOutOfBoundsException,NoSuchElementException",
        "int valueWithout(int) IndexOutOfBoundsException,NoSuchElementException",
        "int lay(int,int) IndexOutOfBoundsException,IllegalStateException",
        "int pass() IllegalStateException",
        "int playOut(int) IllegalArgumentException",
        "int setPasses(int) IllegalArgumentException",
        "int move(int,int) IndexOutOfBoundsException,IllegalArgumentException",
        "int account(int,int) IndexOutOfBoundsException,IllegalArgumentException",
        "int writeBoard() ",
        "int writtenByte(int) IndexOutOfBoundsException",
        "int undo() IllegalStateException",
        "int save(int) IndexOutOfBoundsException",
        "int restore(int) IndexOutOfBoundsException,IllegalStateException",
    };

    private static final String[] CONSTANTS = {
        "NONE", "SYNTAX_ERROR", "VALUE_ERROR", "TWICE", "REFUSED", "TOO_MANY"
    };

    private static final String[] FORBIDDEN = {
        "\\bcatch\\b", "\\btry\\b", "\\bfinally\\b", "\\bsynchronized\\b", "\\bassert\\b", "->", "::",
        "\\bSystem\\.(?!arraycopy)", "\\bObject\\b", "\\bThread\\b", "\\bequals\\b", "\\bhashCode\\b",
        "\\btoString\\b", "Exact\\b", "\\bMap\\b", "\\bRandom\\b", "\\binstanceof\\b", "^package\\b"
    };

    public static void main(String[] args) throws IOException {
        face();
        String source = new String(
                Files.readAllBytes(Path.of("src/main/java/ColourDuel.java")), StandardCharsets.UTF_8);
        String code = withoutComments(source);
        for (String word : FORBIDDEN) {
            Check.due("uses of " + word, count(word, code), 0);
        }
        List<String> imports = found("import ([a-zA-Z.*]+);", code);
        Check.due("imports", imports, List.of("java.util.NoSuchElementException"));
        Check.due("while (true) and for (;;)", count("while \\(true\\)|for \\(;;\\)", code), 0);
        longMethods(source);
        constructors(code);
        sizes();
        thrown(code);
        Check.end("RulesTests");
    }

    private static void face() {
        Set<String> methods = new TreeSet<>();
        Set<String> publicNames = new TreeSet<>();
        Set<String> privateNames = new TreeSet<>();
        for (Method m : ColourDuel.class.getDeclaredMethods()) {
            if (Modifier.isPrivate(m.getModifiers())) {
                privateNames.add(m.getName());
            } else if (!m.isSynthetic()) {
                publicNames.add(m.getName());
                methods.add(told(m));
            }
        }
        Check.due("the methods", methods, new TreeSet<>(Arrays.asList(FACE)));
        for (Class<?> inside : ColourDuel.class.getDeclaredClasses()) {
            Check.due(inside + " is static", Modifier.isStatic(inside.getModifiers()), true);
            Check.due(inside + " is hidden", Modifier.isPublic(inside.getModifiers()), false);
            for (Method m : inside.getDeclaredMethods()) {
                privateNames.add(m.getName());
            }
        }
        privateNames.retainAll(publicNames);
        Check.due("private methods with public names", privateNames, new TreeSet<String>());
        Constructor<?>[] constructors = ColourDuel.class.getDeclaredConstructors();
        Check.due("constructors", constructors.length, 1);
        Check.due("its parameters", constructors[0].getParameterCount(), 0);
        Set<String> constants = new TreeSet<>();
        for (Field f : ColourDuel.class.getDeclaredFields()) {
            if (!Modifier.isPrivate(f.getModifiers())) {
                constants.add(f.getName());
            }
        }
        Check.due("the constants", constants, new TreeSet<>(Arrays.asList(CONSTANTS)));
        Check.due("final", Modifier.isFinal(ColourDuel.class.getModifiers()), true);
    }

    private static String told(Method m) {
        List<String> parameters = new ArrayList<>();
        for (Class<?> type : m.getParameterTypes()) {
            parameters.add(type.getSimpleName());
        }
        List<String> thrown = new ArrayList<>();
        for (Class<?> type : m.getExceptionTypes()) {
            thrown.add(type.getSimpleName());
        }
        return m.getReturnType().getSimpleName() + " " + m.getName() + "("
                + String.join(",", parameters) + ") " + String.join(",", thrown);
    }

    private static void sizes() {
        List<Class<?>> classes = new ArrayList<>(List.of(ColourDuel.class.getDeclaredClasses()));
        classes.add(ColourDuel.class);
        Check.due("at most twelve classes", classes.size() <= 12, true);
        for (Class<?> one : classes) {
            int fields = 0;
            for (Field f : one.getDeclaredFields()) {
                boolean ofClass = Modifier.isStatic(f.getModifiers());
                fields += ofClass ? 0 : 1;
                Check.due(f + " is final", !ofClass || Modifier.isFinal(f.getModifiers()), true);
            }
            Check.due("fields of " + one, fields <= 20, true);
            for (Method m : one.getDeclaredMethods()) {
                Check.due("parameters of " + m, m.getParameterCount() <= 7, true);
            }
            Check.due("classes inside " + one, one == ColourDuel.class
                    || one.getDeclaredClasses().length == 0, true);
        }
    }

    /** What is thrown is new, is of a class that is allowed, and has a written text at most. */
    private static void thrown(String code) {
        Set<String> allowed = Set.of("IllegalStateException", "IllegalArgumentException",
                "IndexOutOfBoundsException", "ArithmeticException", "UnsupportedOperationException",
                "NoSuchElementException", "RuntimeException");
        List<String> thrown = found("\\bthrow new (\\w+)\\((?:\"[^\"]*\")?\\);", code);
        Check.due("all that is thrown is new", thrown.size(), count("\\bthrow\\b", code));
        for (String one : thrown) {
            Check.due(one + " may be thrown", allowed.contains(one), true);
        }
    }

    /** No constructor calls anything with an argument, so none hands out a part of its object. */
    private static void constructors(String code) {
        List<String> bodies = found("(?s)^ {4,8}(?:public )?[A-Z]\\w+\\([^)]*\\) \\{\n(.*?)^ {4,8}\\}$", code);
        Check.due("constructors that are written out", bodies.size(), 3);
        for (String body : bodies) {
            Check.due("calls with arguments in a constructor", found("(\\w+\\([^)]+\\))", body), List.of());
            Check.due("throws in a constructor", count("\\bthrow\\b", body), 0);
        }
    }

    private static String withoutComments(String source) {
        return source.replaceAll("(?s)/\\*.*?\\*/", "").replaceAll("//[^\n]*", "");
    }

    private static int count(String pattern, String text) {
        return found("(" + pattern + ")", text).size();
    }

    private static List<String> found(String pattern, String text) {
        List<String> found = new ArrayList<>();
        Matcher m = Pattern.compile(pattern, Pattern.MULTILINE).matcher(text);
        while (m.find()) {
            found.add(m.group(1));
        }
        return found;
    }

    /** Methods stand at an indent of 4 or 8 and end with a brace at the same indent. */
    private static void longMethods(String source) {
        String[] lines = source.split("\n");
        for (int k = 0; k < lines.length; k++) {
            Matcher m = Pattern.compile("^( {4}| {8})[a-z].*\\) ?.*\\{$").matcher(lines[k]);
            if (m.matches() && !lines[k].contains(" class ")) {
                int end = k;
                while (end < lines.length && !lines[end].equals(m.group(1) + "}")) {
                    end++;
                }
                Check.due("lines of " + lines[k].trim(), end - k < 60, true);
            }
        }
    }
}
