import java.lang.reflect.Field;
import java.lang.reflect.Method;
import java.lang.reflect.Modifier;
import java.nio.file.Files;
import java.nio.file.Path;
import java.util.List;
import java.util.regex.Matcher;
import java.util.regex.Pattern;

/** Rules of LANGUAGE.md that can be seen in the text of the class, or in the class itself. */
public final class LanguageTest {
    private static final Path SOURCE = Path.of("src", "main", "java", "NotebookWeir.java");
    private static final int MOST_LINES = 60;
    private static final int MOST_CLASSES = 12;
    private static final int MOST_FIELDS = 20;
    private static final int MOST_PARAMETERS = 7;

    public static void main(String[] args) throws Exception {
        List<String> lines = Files.readAllLines(SOURCE);
        signs(lines);
        words(lines);
        library(lines);
        objectsAreMadeOnce(lines);
        methodsAreShort(lines);
        loopsAreBounded(lines);
        classes();
        Checks.end("LanguageTest");
    }

    private static String code(String line) {
        String trimmed = line.trim();
        boolean isComment = trimmed.startsWith("*") || trimmed.startsWith("/*") || trimmed.startsWith("//");
        return isComment ? "" : line.replaceAll("//.*", "").replaceAll("'.'", "' '");
    }

    private static void none(String what, List<String> lines, String pattern) {
        Pattern sought = Pattern.compile(pattern);
        for (int i = 0; i < lines.size(); i++) {
            Checks.due(what + " in line " + (i + 1) + ": " + lines.get(i), sought.matcher(code(lines.get(i))).find()
                    ? 1 : 0, 0);
        }
    }

    private static void signs(List<String> lines) {
        for (int i = 0; i < lines.size(); i++) {
            Checks.due("signs of line " + (i + 1), lines.get(i).chars().allMatch(sign -> sign < 127) ? 1 : 0, 1);
            Checks.due("length of line " + (i + 1), Math.max(lines.get(i).length(), 120), 120);
        }
    }

    private static void words(List<String> lines) {
        none("a package or an import", lines, "^(package|import)\\b");
        none("a word that is ruled out", lines,
                "\\b(finally|synchronized|assert|try|catch|var|native|volatile|transient|protected|double|float)\\b");
        none("a lambda or a method reference", lines, "->|::");
        none("a static initialiser", lines, "static \\{");
        none("a text", lines, "\"");
        none("equals, hashCode or toString", lines, "\\b(equals|hashCode|toString)\\(");
    }

    private static void library(List<String> lines) {
        Pattern used = Pattern.compile("\\b(System|Integer|Math|Long|Arrays|String|Character|Object)\\b(\\.\\w+)?");
        List<String> allowed = List.of("System.arraycopy", "Integer.bitCount", "Math.max", "Math.min");
        for (String line : lines) {
            Matcher matcher = used.matcher(code(line));
            while (matcher.find()) {
                Checks.due(matcher.group() + " is in the library", allowed.contains(matcher.group()) ? 1 : 0, 1);
            }
        }
    }

    /** Objects are made for fields and in constructors alone, but for exceptions: a call takes no room. */
    private static void objectsAreMadeOnce(List<String> lines) {
        Pattern made = Pattern.compile("\\bnew (?!(IndexOutOfBounds|IllegalArgument|IllegalState)Exception\\(\\);)");
        for (int i = 0; i < lines.size(); i++) {
            if (made.matcher(code(lines.get(i))).find()) {
                boolean isField = lines.get(i).matches(" +private .* = new .*");
                Checks.due("new in line " + (i + 1), isField || isInConstructor(lines, i) ? 1 : 0, 1);
            }
        }
    }

    private static boolean isInConstructor(List<String> lines, int line) {
        for (int i = line; i >= 0; i--) {
            if (lines.get(i).matches(" +(public )?[A-Z]\\w*\\(\\) \\{")) {
                return true;
            }
            if (lines.get(i).matches(" +(public |private )?(static )?[\\w\\[\\]]+ \\w+\\(.*\\{")) {
                return false;
            }
        }
        return false;
    }

    private static void methodsAreShort(List<String> lines) {
        int start = -1;
        String end = "";
        for (int i = 0; i < lines.size(); i++) {
            String line = lines.get(i);
            if (line.matches(" +[\\w\\[\\], ]+\\(.*\\) ?(throws [\\w, ]+)?\\{") && !line.matches(" +(if|for|while|switch|else).*")
                    && start < 0) {
                start = i;
                end = line.replaceAll("\\S.*", "") + "}";
            } else if (start >= 0 && line.equals(end)) {
                Checks.due("lines of the method in line " + (start + 1), Math.max(i - start + 1, MOST_LINES), MOST_LINES);
                start = -1;
            }
        }
    }

    private static void loopsAreBounded(List<String> lines) {
        none("a loop without a counter", lines, "\\b(while|do)\\b");
        Pattern counted = Pattern.compile("for \\(int (\\w+) = [^;]+; \\1 (<|<=|>=) [^;]+; \\1(\\+\\+|--)\\)");
        for (int i = 0; i < lines.size(); i++) {
            if (code(lines.get(i)).matches(" *for .*")) {
                Checks.due("the loop in line " + (i + 1), counted.matcher(lines.get(i)).find() ? 1 : 0, 1);
            }
        }
    }

    private static void classes() {
        Class<?>[] inside = NotebookWeir.class.getDeclaredClasses();
        Checks.due("how many classes", Math.max(inside.length + 1, MOST_CLASSES), MOST_CLASSES);
        members(NotebookWeir.class);
        for (Class<?> one : inside) {
            Checks.due(one + " is private and static", one.getModifiers() & (Modifier.PRIVATE | Modifier.STATIC),
                    Modifier.PRIVATE | Modifier.STATIC);
            members(one);
        }
    }

    private static void members(Class<?> one) {
        int fields = 0;
        for (Field field : one.getDeclaredFields()) {
            boolean isStatic = Modifier.isStatic(field.getModifiers());
            fields += isStatic ? 0 : 1;
            Checks.due(field + " is final if it is static", isStatic && !Modifier.isFinal(field.getModifiers()) ? 1 : 0, 0);
        }
        Checks.due("how many fields " + one + " has", Math.max(fields, MOST_FIELDS), MOST_FIELDS);
        for (Method method : one.getDeclaredMethods()) {
            Checks.due("parameters of " + method, Math.max(method.getParameterCount(), MOST_PARAMETERS), MOST_PARAMETERS);
        }
    }
}
