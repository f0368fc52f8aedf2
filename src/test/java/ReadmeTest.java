import java.nio.file.Files;
import java.nio.file.Path;
import java.util.ArrayList;
import java.util.Arrays;
import java.util.List;
import java.util.Map;
import java.util.Set;
import java.util.TreeSet;
import java.util.regex.Matcher;
import java.util.regex.Pattern;
import java.util.stream.Stream;

/** What README.md shows is what the class answers: each block of Java in it is carried out, line by line. */
public final class ReadmeTest {
    private static final Check check = new Check();
    private static final Pattern MADE = Pattern.compile("PramState x = new PramState\\(\\);");
    private static final Pattern CALL = Pattern.compile("x\\.(\\w+)\\(([^)]*)\\); +// (-?\\d+)(?:: .*)?");
    private static final Pattern TYPED = Pattern.compile("for \\(char c : \"([^\"]*)\"\\.toCharArray\\(\\)\\) x\\.type\\(c\\);");

    private final Set<String> shown = new TreeSet<>();
    private PramState x;
    private int calls;

    public static void main(String[] args) throws Exception {
        List<String> readme = Files.readAllLines(Path.of("README.md"));
        new ReadmeTest().blocks(readme);
        tableOfCalls(readme);
        tableOfTests(readme);
        check.end();
    }

    private void blocks(List<String> readme) throws Exception {
        boolean inside = false;
        for (String line : readme) {
            if (line.startsWith("```")) {
                inside = line.equals("```java");
                x = null;
            } else if (inside) {
                carryOut(line);
            }
        }
        check.due("calls that README shows are all of the face: " + shown, shown.equals(Face.methods().keySet()) ? 1 : 0, 1);
    }

    private void carryOut(String line) throws Exception {
        Matcher call = CALL.matcher(line);
        Matcher typed = TYPED.matcher(line);
        if (MADE.matcher(line).matches()) {
            x = new PramState();
            calls = 0;
        } else if (x != null && call.matches()) {
            shown.add(call.group(1));
            calls++;
            check.due("README: " + line, answer(call.group(1), call.group(2)), Long.parseLong(call.group(3)));
        } else if (x != null && typed.matches()) {
            for (char c : typed.group(1).toCharArray()) x.type(c);
            calls += typed.group(1).length();
        } else {
            check.due("README: a line that this test can not read: " + line, 0, 1);
        }
        check.due("README: no more than 512 calls at " + line, calls <= 512 ? 1 : 0, 1);
    }

    private long answer(String name, String told) throws Exception {
        List<Integer> numbers = new ArrayList<>();
        for (String one : told.isEmpty() ? new String[0] : told.split(", ")) {
            Integer constant = Face.constants().get(one.replace("PramState.", ""));
            numbers.add(constant != null ? constant : Integer.valueOf(one));
        }
        Class<?>[] types = new Class<?>[numbers.size()];
        Arrays.fill(types, int.class);
        Number answer = (Number) PramState.class.getMethod(name, types).invoke(x, numbers.toArray());
        return answer.longValue();
    }

    /** The table has each call once, in the document's order, with the document's names for its numbers. */
    private static void tableOfCalls(List<String> readme) {
        List<String> told = new ArrayList<>();
        for (Map.Entry<String, String> one : Face.methods().entrySet()) {
            told.add(one.getValue().replaceFirst("^(int|long) ", "").replace("int ", ""));
        }
        List<String> rows = firstCells(readme, "\\| `(\\w+\\([^)]*\\))` \\|.*");
        check.due("README's table of calls: " + rows, rows.equals(told) ? 1 : 0, 1);
    }

    private static void tableOfTests(List<String> readme) throws Exception {
        Set<String> files = new TreeSet<>();
        try (Stream<Path> all = Files.list(Path.of("src/test/java"))) {
            all.map(f -> f.getFileName().toString()).filter(f -> f.endsWith("Test.java"))
                .forEach(f -> files.add(f.replace(".java", "")));
        }
        Set<String> rows = new TreeSet<>(firstCells(readme, "\\| `(\\w+Test)` \\|.*"));
        check.due("README's table of tests: " + rows, rows.equals(files) ? 1 : 0, 1);
    }

    private static List<String> firstCells(List<String> readme, String row) {
        List<String> cells = new ArrayList<>();
        for (String line : readme) {
            Matcher m = Pattern.compile(row).matcher(line);
            if (m.matches()) cells.add(m.group(1));
        }
        return cells;
    }
}
