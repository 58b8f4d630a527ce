import java.io.IOException;
import java.lang.reflect.Method;
import java.lang.reflect.Modifier;
import java.net.URL;
import java.net.URLClassLoader;
import java.nio.file.Files;
import java.nio.file.Path;
import java.util.ArrayList;
import java.util.List;
import java.util.regex.Matcher;
import java.util.regex.Pattern;
import javax.tools.ToolProvider;

/** What README.md shows is run, and each answer that it tells held; it names every call. */
public final class ReadmeTest {
    private static final Pattern FENCED = Pattern.compile("(?s)```java\n(.*?)```");
    private static final Pattern ANSWERED = Pattern.compile(
            "^(tongue\\..*);\\s+// (-?\\d+|true|false)(:.*)?$");

    private static int answers = 0;

    public static void main(String[] args) throws Exception {
        String page = Files.readString(Path.of("README.md"));
        Due due = new Due();
        due.about("README.md");
        for (Method m : BellTongue.class.getDeclaredMethods()) {
            if (Modifier.isPublic(m.getModifiers())) {
                due.due("`" + m.getName() + "`", page.contains("`" + m.getName() + "`"), true);
            }
        }
        String shown = program(page);
        due.due("answers that are shown", answers > 20, true);
        run(shown, due);
        due.close("ReadmeTest");
    }

    /** Of what is shown: methods as they are, all else one behind the other in one method. */
    private static String program(String page) {
        StringBuilder methods = new StringBuilder();
        StringBuilder body = new StringBuilder();
        Matcher fenced = FENCED.matcher(page);
        while (fenced.find()) {
            if (fenced.group(1).startsWith("static ")) {
                methods.append(fenced.group(1));
                continue;
            }
            for (String line : fenced.group(1).split("\n")) {
                body.append(held(line)).append('\n');
            }
        }
        return "public final class Shown {\n" + methods
                + "public static void run(java.util.List<Object> told) {\n" + body + "}\n}\n";
    }

    private static String held(String line) {
        Matcher m = ANSWERED.matcher(line);
        if (!m.matches()) {
            return line;
        }
        answers++;
        String call = m.group(1);
        return "told.add(\"" + call + "\"); told.add(" + call + "); told.add(" + m.group(2) + ");";
    }

    private static void run(String source, Due due) throws Exception {
        Path room = Files.createTempDirectory("readme");
        try {
            Path file = Files.writeString(room.resolve("Shown.java"), source);
            int failed = ToolProvider.getSystemJavaCompiler().run(null, System.out, System.out,
                    "-cp", System.getProperty("java.class.path"), "-d", room.toString(),
                    file.toString());
            due.due("compiles", failed, 0);
            if (failed == 0) {
                call(room, due);
            }
        } finally {
            remove(room);
        }
    }

    private static void call(Path room, Due due) throws Exception {
        try (URLClassLoader loader = new URLClassLoader(new URL[] {room.toUri().toURL()})) {
            List<Object> told = new ArrayList<>();
            loader.loadClass("Shown").getMethod("run", List.class).invoke(null, told);
            for (int i = 0; i < told.size(); i += 3) {
                String call = told.get(i) + " answered " + told.get(i + 1) + ", README.md says "
                        + told.get(i + 2);
                due.due(call, told.get(i + 1).equals(told.get(i + 2)), true);
            }
        }
    }

    private static void remove(Path room) throws IOException {
        try (var files = Files.list(room)) {
            for (Path file : files.toList()) {
                Files.delete(file);
            }
        }
        Files.delete(room);
    }
}
