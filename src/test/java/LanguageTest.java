import java.lang.reflect.Constructor;
import java.lang.reflect.Field;
import java.lang.reflect.Method;
import java.lang.reflect.Modifier;
import java.nio.charset.StandardCharsets;
import java.nio.file.Files;
import java.nio.file.Path;
import java.util.ArrayList;
import java.util.HashMap;
import java.util.List;
import java.util.Map;
import java.util.Set;
import java.util.TreeSet;
import java.util.regex.Matcher;
import java.util.regex.Pattern;

/** Rules of LANGUAGE.md that can be seen in the source text or in the compiled class. */
public final class LanguageTest {
    private static final Check check = new Check();
    public static void main(String[] args) throws Exception {
        String source = Files.readString(Path.of("src/main/java/PramState.java"), StandardCharsets.ISO_8859_1);
        String code = source.replaceAll("(?s)/\\*.*?\\*/", "").replaceAll("//[^\n]*", "");
        face();
        members();
        never(code, "rule 6", "\\b(throw|throws|try|catch|synchronized|assert)\\b");
        never(code, "rule 2", "->|::");
        never(code, "rule 4, annotations", "@");
        never(code, "rule 4, other imports", "\\bimport (?!java\\.util\\.(Arrays|ArrayList|List|Iterator);)");
        never(code, "rule 4, constants of the library", "\\b(Integer|Long|Math)\\.[A-Z]");
        never(code, "rule 4, exact functions", "\\bMath\\.\\w*Exact\\b");
        never(code, "rule 4, texts", "[^\\x01-\\x7f]");
        never(code, "rule 10, joined texts", "\"\\s*\\+|\\+\\s*\"");
        never(code, "rule 6, casts and tests of classes", "\\binstanceof\\b|\\b(equals|hashCode|toString)\\(");
        methodLengths(code);
        never(code, "rule 9, loops without an end", "while \\(true\\)|for \\(;;\\)|for \\([^;]*;\\s*;");
        check.end();
    }

    private static void never(String code, String rule, String pattern) {
        Matcher found = Pattern.compile(pattern).matcher(code);
        check.due(rule + (found.find() ? ": " + found.group() : ""), found.reset().find() ? 1 : 0, 0);
    }

    /** Rule 11: a method ends at the first closing brace that stands as far in as its head. */
    private static void methodLengths(String code) {
        Matcher method = Pattern.compile("(?m)^( +)[^\\n;=]*\\([^\\n;]*\\) \\{\\n").matcher(code);
        int methods = 0;
        while (method.find()) {
            int end = code.indexOf("\n" + method.group(1) + "}", method.end() - 1);
            long lines = code.substring(method.start(), Math.max(method.end(), end)).lines().count();
            check.due("rule 11: length of" + method.group().strip(), lines <= 60 ? 1 : 0, 1);
            methods++;
        }
        check.due("rule 11: methods were seen", methods > 60 ? 1 : 0, 1);
    }

    /** Every method and the constructor as the document has them: name, numbers taken, what is answered; no other. */
    private static void face() {
        Set<String> open = new TreeSet<>();
        for (Method m : PramState.class.getDeclaredMethods()) {
            boolean isPublic = Modifier.isPublic(m.getModifiers());
            check.due("rule 1: " + m.getName() + " is of the face, or private",
                isPublic || Modifier.isPrivate(m.getModifiers()) ? 1 : 0, 1);
            check.due("rule 1: name " + m.getName(), isPublic == Face.methods().containsKey(m.getName()) ? 1 : 0, 1);
            if (isPublic) open.add(head(m));
        }
        Set<String> told = new TreeSet<>();
        for (String head : Face.methods().values()) told.add(head.replaceAll("int \\w+([,)])", "int$1"));
        check.due("the face is told with 35 methods", told.size(), 35);
        check.due("rule 1: the face is " + told + " and not " + open, open.equals(told) ? 1 : 0, 1);
        Constructor<?>[] constructors = PramState.class.getDeclaredConstructors();
        check.due("rule 1: one constructor", constructors.length, 1);
        check.due("rule 1: it takes nothing", constructors[0].getParameterCount(), 0);
        check.due("rule 1: it is public", Modifier.isPublic(constructors[0].getModifiers()) ? 1 : 0, 1);
        int manner = PramState.class.getModifiers();
        check.due("rule 1: public and final", Modifier.isPublic(manner) && Modifier.isFinal(manner) ? 1 : 0, 1);
    }

    private static String head(Method m) {
        List<String> taken = new ArrayList<>();
        for (Class<?> type : m.getParameterTypes()) taken.add(type.getName());
        boolean plain = !Modifier.isStatic(m.getModifiers());
        return (plain ? "" : "static ") + m.getReturnType().getName() + " " + m.getName() + "(" + String.join(", ", taken) + ")";
    }

    private static void members() throws IllegalAccessException {
        Map<String, Integer> constants = new HashMap<>();
        for (Field f : PramState.class.getDeclaredFields()) {
            boolean fixed = Modifier.isStatic(f.getModifiers()) && Modifier.isFinal(f.getModifiers());
            if (Modifier.isPublic(f.getModifiers()) && fixed && f.getType() == int.class) {
                constants.put(f.getName(), f.getInt(null));
            } else {
                check.due("rule 1: field " + f.getName() + " is private", Modifier.isPrivate(f.getModifiers()) ? 1 : 0, 1);
            }
            check.due("rule 5: " + f.getName() + " is final, or no static one", fixed || !Modifier.isStatic(f.getModifiers()) ? 1 : 0, 1);
        }
        check.due("rule 1: constants of the face, not " + constants, constants.equals(Face.constants()) ? 1 : 0, 1);
        Class<?>[] inside = PramState.class.getDeclaredClasses();
        check.due("rule 11: classes", inside.length <= 11 ? 1 : 0, 1);
        for (Class<?> c : inside) {
            check.due("rule 2: " + c.getSimpleName() + " is static", Modifier.isStatic(c.getModifiers()) ? 1 : 0, 1);
            int fields = 0;
            for (Field f : c.getDeclaredFields()) fields += Modifier.isStatic(f.getModifiers()) ? 0 : 1;
            check.due("rule 11: fields of " + c.getSimpleName(), fields <= 20 ? 1 : 0, 1);
            for (Field f : c.getDeclaredFields()) {
                if (!Modifier.isStatic(f.getModifiers())) continue;
                check.due("rule 5: " + f.getName() + " is final", Modifier.isFinal(f.getModifiers()) ? 1 : 0, 1);
            }
            for (Method m : c.getDeclaredMethods()) {
                check.due("rule 11: parameters of " + m.getName(), m.getParameterCount() <= 7 ? 1 : 0, 1);
                check.due("rule 1: " + m.getName() + " of " + c.getSimpleName(), Face.methods().containsKey(m.getName()) ? 1 : 0, 0);
            }
        }
    }
}
