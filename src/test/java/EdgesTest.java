import java.io.IOException;
import java.lang.reflect.InvocationTargetException;
import java.lang.reflect.Method;
import java.nio.file.Files;
import java.nio.file.Path;
import java.util.Arrays;
import java.util.Comparator;
import java.util.Map;
import java.util.TreeMap;

/**
 * Runs all tests of edges, each of which tells its promise and what the document says there; then
 * holds the document against them: what they say must stand there, and no sentence of a promise
 * or of the Terms may be without a test.
 */
public final class EdgesTest {
    private static final Class<?>[] EDGES = {EdgesOfBells.class, EdgesOfTexts.class,
        EdgesOfLaws.class, EdgesOfSteps.class, EdgesOfReadings.class, EdgesOfValleys.class,
        EdgesOfChanges.class};
    private static final int TERMS = 0;

    private final Due due = new Due();
    /** By promise (0: the Terms): what the document says; what a test holds is blotted out. */
    private final Map<Integer, StringBuilder> open = new TreeMap<>();
    private final Map<Integer, String> document = new TreeMap<>();
    private int tests = 0;

    public static void main(String[] args) throws IOException {
        EdgesTest all = new EdgesTest();
        all.readDocument(Path.of(System.getProperty("document", "../shared/DOC.md")));
        for (Class<?> c : EDGES) {
            Method[] methods = c.getDeclaredMethods();
            Arrays.sort(methods, Comparator.comparing(Method::getName));
            for (Method m : methods) {
                Holds holds = m.getAnnotation(Holds.class);
                if (holds != null) {
                    all.runOne(m, holds);
                }
            }
        }
        all.lookForOpen();
        System.out.println("EdgesTest: " + all.tests + " edges of " + (all.open.size() - 1)
                + " promises");
        all.due.close("EdgesTest");
    }

    private void readDocument(Path path) throws IOException {
        String[] sections = Files.readString(path).split("(?m)^## ");
        for (String s : sections) {
            int line = s.indexOf('\n');
            String head = line < 0 ? s : s.substring(0, line);
            String body = line < 0 ? "" : s.substring(line);
            if (head.equals("Terms")) {
                put(TERMS, body.replaceAll("(?m)^```(text)?$", "").replaceAll("==== [IV]+\\.", ""));
            } else if (head.matches("Promise \\d+: .*")) {
                int number = Integer.parseInt(head.replaceAll("Promise (\\d+): .*", "$1"));
                put(number, body.replaceFirst("`[^`]*`:", ""));
            }
        }
        due.about("the document");
        due.due("promises", document.size() - 1, 47);
    }

    private void put(int promise, String says) {
        String plain = plain(says);
        document.put(promise, plain);
        open.put(promise, new StringBuilder(plain));
    }

    private static String plain(String s) {
        return s.replaceAll("\\s+", " ").trim();
    }

    private void runOne(Method test, Holds holds) {
        tests++;
        String name = "promise " + holds.promise() + ", " + test.getName();
        due.about(name);
        for (String says : holds.says()) {
            due.due("the document says: " + says, blot(holds.promise(), plain(says)), true);
        }
        try {
            test.invoke(null, due);
        } catch (InvocationTargetException e) {
            due.due("it threw " + e.getCause(), true, false);
        } catch (IllegalAccessException | IllegalArgumentException e) {
            due.due("it can't be run: " + e, true, false);
        }
    }

    /** Whether the promise, or else the Terms, say this; it has a test then. */
    private boolean blot(int promise, String says) {
        int where = document.getOrDefault(promise, "").contains(says) ? promise : TERMS;
        String text = document.getOrDefault(where, "");
        int at = text.indexOf(says);
        boolean found = at >= 0;
        while (at >= 0) {
            open.get(where).replace(at, at + says.length(), " ".repeat(says.length()));
            at = text.indexOf(says, at + 1);
        }
        return found;
    }

    private void lookForOpen() {
        for (Map.Entry<Integer, StringBuilder> e : open.entrySet()) {
            String rest = plain(e.getValue().toString());
            String where = e.getKey() == TERMS ? "the Terms" : "promise " + e.getKey();
            due.about(where);
            due.due("without a test: " + rest, rest.isEmpty(), true);
        }
    }
}
