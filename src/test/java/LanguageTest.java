import java.io.IOException;
import java.lang.reflect.Constructor;
import java.lang.reflect.Field;
import java.lang.reflect.Method;
import java.lang.reflect.Modifier;
import java.nio.file.Files;
import java.nio.file.Path;
import java.util.Arrays;
import java.util.List;
import java.util.Set;
import java.util.TreeSet;
import java.util.regex.Matcher;
import java.util.regex.Pattern;

/** The rules of LANGUAGE.md that can be seen in the source or by reflection. */
public final class LanguageTest {
    private static final String[] BANNED = {"throw", "throws", "try", "catch", "synchronized", "assert", "import", "package",
        "new Object", "Exact\\(", "equals\\(", "hashCode", "toString", "->", "::", "@Override", "var ", "System\\.", "Thread",
        "Random", "Object\\b", "double", "float", "volatile", "transient", "native", "instanceof", "Arrays"};
    private static final String[] FACE = {"append(int)int", "cut(int)int", "change(int,int)int", "turn()int",
        "set(int,int)int", "letterAt(int)int", "unlike(int,int,int)int", "period(int,int)int", "runOf(int,int)int",
        "cheapest(int,int,int)int", "textAt(int)int", "descriptions(int,int)long", "would(int,int)int",
        "bestChange(int)int", "type(int)int", "clearText()int", "fault(int)int", "told(int)int", "adopt()int",
        "count(int)int", "undo()int"};

    private LanguageTest() {
    }

    public static void main(String[] args) throws IOException {
        List<String> lines = Files.readAllLines(Path.of("src/main/java/RepeatNests.java"));
        words(lines);
        methods(lines);
        face();
        inner();
        Due.end();
    }

    private static void words(List<String> lines) {
        String code = String.join("\n", lines).replaceAll("(?s)/\\*.*?\\*/", "").replaceAll("//[^\n]*", "");
        for (String banned : BANNED) {
            Matcher found = Pattern.compile("(?<![A-Za-z])" + banned + (banned.matches("[a-z]+") ? "\\b" : "")).matcher(code);
            Due.same("the source's use of " + banned, found.find() ? "there" : "none", "none");
        }
        Due.holds("signs are plain", code.chars().allMatch(sign -> sign == '\n' || sign >= 32 && sign < 127));
    }

    /** Methods stay within some sixty lines and seven parameters. */
    private static void methods(List<String> lines) {
        Pattern head = Pattern.compile("^( {4}| {8})(?! )(?!if|for|while|switch)[A-Za-z\\[\\] ]+\\(([^()]*)\\) \\{$");
        for (int begin = 0; begin < lines.size(); begin++) {
            Matcher found = head.matcher(lines.get(begin));
            if (found.matches()) {
                int end = begin;
                while (!lines.get(end).equals(found.group(1) + "}")) {
                    end++;
                }
                Due.holds("lines of " + lines.get(begin).trim(), end - begin < 60);
                Due.holds("parameters of " + lines.get(begin).trim(), found.group(2).split(",").length <= 7);
            }
        }
    }

    private static void face() {
        Class<?> whole = RepeatNests.class;
        Due.same("the class", Modifier.toString(whole.getModifiers()), "public final");
        Set<String> seen = new TreeSet<>();
        for (Method method : whole.getDeclaredMethods()) {
            if (!Modifier.isPrivate(method.getModifiers()) && !method.isSynthetic()) {
                String types = Arrays.toString(method.getParameterTypes()).replaceAll("[\\[\\] ]", "");
                seen.add(method.getName() + "(" + types + ")" + method.getReturnType());
            }
        }
        Due.same("the methods", seen.toString(), new TreeSet<>(Arrays.asList(FACE)).toString());
        Set<String> constants = new TreeSet<>();
        for (Field field : whole.getDeclaredFields()) {
            if (!Modifier.isPrivate(field.getModifiers())) {
                constants.add(field.getName());
            }
            Due.holds("static is final: " + field,
                !Modifier.isStatic(field.getModifiers()) || Modifier.isFinal(field.getModifiers()));
        }
        Due.same("the constants", constants.toString(), "[INVALID_ARGUMENT, LIMIT_REACHED, NOT_FOUND, NOT_POSSIBLE]");
        Constructor<?>[] constructors = whole.getDeclaredConstructors();
        Due.holds("one constructor, without arguments", constructors.length == 1 && constructors[0].getParameterCount() == 0);
    }

    private static void inner() {
        Set<String> names = new TreeSet<>();
        for (String method : FACE) {
            names.add(method.substring(0, method.indexOf('(')));
        }
        Class<?>[] inside = RepeatNests.class.getDeclaredClasses();
        Due.holds("at most some twelve classes", inside.length + 1 <= 12);
        for (Class<?> one : inside) {
            Due.holds("a static class: " + one, Modifier.isStatic(one.getModifiers()));
            Due.holds("a class that is not public or protected: " + one, (one.getModifiers() & 5) == 0);
            Due.holds("at most some twenty fields: " + one, one.getDeclaredFields().length <= 20);
            for (Method method : one.getDeclaredMethods()) {
                Due.holds("not a public method's name: " + method, !names.contains(method.getName()));
            }
            for (Field field : one.getDeclaredFields()) {
                Due.holds("nothing static inside: " + field, !Modifier.isStatic(field.getModifiers()));
            }
        }
    }
}
