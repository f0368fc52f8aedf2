import java.util.LinkedHashMap;
import java.util.Map;
import java.util.regex.Matcher;
import java.util.regex.Pattern;

/** The public face, word for word as the document has it, for the tests that hold something against it. */
final class Face {
    static final String DOCUMENT = """
        public final class PramState {
            public static final int NONE = -1, BAD = -2, NO = -3, FULL = -4;
            public PramState();
            public int court();
            public int infant(int kind, int months, int home);
            public int skill(int n, int s);
            public int type(int c);
            public int clear();
            public int read();
            public int month(int n);
            public int nurse(int i, int n);
            public int retire(int i);
            public int undo();
            public int of(int i, int what);
            public int hour(int i, int h, int what);
            public int day(int i);
            public int reign(int m);
            public int falls();
            public int line(int i, int what);
            public int meet(int a, int b);
            public int congress(int what);
            public int nurses(int i);
            public int visit();
            public int note(int i, int m, int h, int slept, int x);
            public int heard(int i, int awake);
            public int forget(int what);
            public int is(int i);
            public int listen(int i);
            public int which();
            public int powers(int h);
            public int walks(int m, int c);
            public int dynasties(int seed, int n);
            public long part(int what);
            public int image(int i);
            public int from(int i);
            public int status(int what);
            public int count(int what);
            public long digest();
        }
        """;

    private Face() {
    }

    /** Name to head, such as "part" to "long part(int what)", in the document's order. */
    static Map<String, String> methods() {
        Map<String, String> heads = new LinkedHashMap<>();
        Matcher line = Pattern.compile("public ((?:int|long) (\\w+)\\([^)]*\\));").matcher(DOCUMENT);
        while (line.find()) heads.put(line.group(2), line.group(1));
        return heads;
    }

    static Map<String, Integer> constants() {
        Map<String, Integer> values = new LinkedHashMap<>();
        Matcher one = Pattern.compile("([A-Z]+) = (-\\d+)[,;]").matcher(DOCUMENT);
        while (one.find()) values.put(one.group(1), Integer.parseInt(one.group(2)));
        return values;
    }
}
