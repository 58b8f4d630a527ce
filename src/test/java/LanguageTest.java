import java.io.IOException;
import java.lang.reflect.Constructor;
import java.lang.reflect.Field;
import java.lang.reflect.Method;
import java.lang.reflect.Modifier;
import java.nio.file.Files;
import java.nio.file.Path;
import java.util.ArrayList;
import java.util.List;
import java.util.Set;
import java.util.TreeSet;
import java.util.regex.Matcher;
import java.util.regex.Pattern;

/** The document's face, and what LANGUAGE.md rules out, as far as a plain look can tell. */
public final class LanguageTest {
    private static final String FACE = "int bell(int,int,int)\n"
            + "int word(int,int,int,int,int,int)\n" + "boolean hands(int)\n"
            + "int feed(int,int,int,int,int)\n" + "int end(int)\n" + "int text()\n"
            + "int fault(int)\n" + "boolean by(int)\n" + "int ring(int)\n" + "int speak(int)\n"
            + "boolean set(boolean,int)\n" + "int hour(int)\n" + "int sunday()\n"
            + "int played(int)\n" + "int centuries(int,int)\n" + "int undo()\n"
            + "int ofBell(int,int)\n" + "int ofWord(int,int)\n" + "int is(int)\n"
            + "int rung(int)\n" + "int heard(int)\n" + "int book(int,int)\n"
            + "int readings(boolean)\n" + "int reading(boolean,int)\n"
            + "boolean weight(int,int)\n" + "long meant(int,int,boolean)\n"
            + "int shortest(int)\n" + "int atWorst(int)\n" + "int away(int,int)\n"
            + "int apart(int)\n" + "int nearest()\n" + "boolean hears(int,int)\n"
            + "int settles(int,int)\n" + "int line(int,int)\n" + "int whose()\n"
            + "int pairs()\n" + "int tower(int,int)\n" + "int lies(boolean)\n"
            + "int newBell(int)\n" + "int farthest()\n" + "int ropes()\n"
            + "int changes(int,int,int,boolean)\n" + "int takes(int)\n" + "int image()\n"
            + "int back()\n" + "int about(int)";

    private static int wrong = 0;

    public static void main(String[] args) throws IOException {
        face();
        members();
        String source = Files.readString(Path.of(System.getProperty("source",
                "src/main/java/BellTongue.java")));
        words(strip(source));
        methodLengths(strip(source));
        System.out.println("LanguageTest: " + wrong + " wrong");
        if (wrong != 0) {
            System.exit(1);
        }
    }

    private static void hold(boolean good, String what) {
        if (!good) {
            wrong++;
            System.out.println("not as the language asks: " + what);
        }
    }

    private static String shape(Method m) {
        List<String> types = new ArrayList<>();
        for (Class<?> t : m.getParameterTypes()) {
            types.add(t.getSimpleName());
        }
        return m.getReturnType().getSimpleName() + " " + m.getName()
                + "(" + String.join(",", types) + ")";
    }

    private static void face() {
        Set<String> want = new TreeSet<>(List.of(FACE.split("\n")));
        Set<String> got = new TreeSet<>();
        Set<String> names = new TreeSet<>();
        for (Method m : BellTongue.class.getDeclaredMethods()) {
            if (!Modifier.isPrivate(m.getModifiers())) {
                hold(Modifier.isPublic(m.getModifiers()) && !Modifier.isStatic(m.getModifiers()),
                        "rule 1: " + m);
                got.add(shape(m));
                names.add(m.getName());
            }
        }
        hold(got.equals(want), "rule 1: the face is " + got);
        for (Class<?> c : classes()) {
            for (Method m : c.getDeclaredMethods()) {
                boolean face = c == BellTongue.class && Modifier.isPublic(m.getModifiers());
                hold(face || !names.contains(m.getName()), "rule 1: the name of " + m);
            }
        }
        Constructor<?>[] made = BellTongue.class.getDeclaredConstructors();
        hold(made.length == 1 && Modifier.isPublic(made[0].getModifiers())
                && made[0].getParameterCount() == 0, "rule 1: the constructor");
        hold(Modifier.isFinal(BellTongue.class.getModifiers()), "rule 1: final");
    }

    private static List<Class<?>> classes() {
        List<Class<?>> all = new ArrayList<>();
        all.add(BellTongue.class);
        all.addAll(List.of(BellTongue.class.getDeclaredClasses()));
        return all;
    }

    private static void members() {
        hold(classes().size() <= 12, "rule 11: " + classes().size() + " classes");
        for (Class<?> c : classes()) {
            hold(c == BellTongue.class || Modifier.isStatic(c.getModifiers())
                    && !Modifier.isPublic(c.getModifiers()), "rule 2: " + c);
            int fields = 0;
            for (Field f : c.getDeclaredFields()) {
                boolean constant = Modifier.isStatic(f.getModifiers());
                fields += constant ? 0 : 1;
                hold(!constant || Modifier.isFinal(f.getModifiers()), "rule 5: " + f);
                hold(!constant || Set.of("int", "long", "boolean", "char", "String", "int[]",
                        "long[]", "char[]", "byte[]").contains(f.getType().getSimpleName()),
                        "rule 5: " + f);
                hold(c != BellTongue.class || Modifier.isPrivate(f.getModifiers())
                        || f.getName().equals("NONE"), "rule 1: " + f);
            }
            hold(fields <= 20, "rule 11: " + fields + " fields in " + c);
            for (Method m : c.getDeclaredMethods()) {
                hold(m.getParameterCount() <= 7, "rule 11: parameters of " + m);
                hold(!m.isSynthetic(), "rule 2: " + m);
            }
        }
    }

    /** The source without comments and without what stands in texts and signs. */
    private static String strip(String source) {
        return source.replaceAll("(?s)/\\*.*?\\*/", "").replaceAll("//[^\n]*", "")
                .replaceAll("\"[^\"\n]*\"", "\"\"").replaceAll("'[^'\n]+'", "' '");
    }

    private static void words(String code) {
        String[] banned = {"throw", "throws", "try", "catch", "finally", "synchronized", "assert",
            "double", "float", "protected", "interface", "volatile", "native", "goto", "var",
            "Object", "System\\.(?!arraycopy)", "Thread", "Random", "->", "::", "Exact\\b",
            "equals", "hashCode", "toString", "HashMap", "Iterator", "\"\" *\\+", "\\+ *\"\""};
        for (String b : banned) {
            String pattern = Character.isLetter(b.charAt(0)) && !b.contains("\\")
                    ? "\\b" + b + "\\b" : b;
            Matcher m = Pattern.compile(pattern).matcher(code);
            hold(!m.find(), "it has " + b);
        }
        Matcher imports = Pattern.compile("import ([\\w.]+);").matcher(code);
        while (imports.find()) {
            hold(Set.of("java.util.Arrays", "java.util.ArrayList", "java.util.List")
                    .contains(imports.group(1)), "rule 4: import " + imports.group(1));
        }
        hold(!Pattern.compile("(?m)^package").matcher(code).find(), "a package line");
        Matcher calls = Pattern.compile("\\b(Arrays|Math|Integer|Long|System)\\.(\\w+)")
                .matcher(code);
        Set<String> known = Set.of("fill", "copyOf", "copyOfRange", "min", "max", "abs",
                "bitCount", "arraycopy", "compare", "floorDiv", "floorMod");
        while (calls.find()) {
            hold(known.contains(calls.group(2)), "rule 4: " + calls.group());
        }
        for (String call : new String[] {"while (true)", "for (;;)"}) {
            hold(!code.contains(call), "rule 9: " + call);
        }
    }

    /** A method ends with the brace that stands as far to the right as its head. */
    private static void methodLengths(String code) {
        String[] lines = code.split("\n");
        Pattern head = Pattern.compile("^( {4}| {8})(?! )[\\w\\[\\] ]*\\w+\\([^;]*\\) \\{$");
        for (int i = 0; i < lines.length; i++) {
            Matcher m = head.matcher(lines[i]);
            if (!m.matches()) {
                continue;
            }
            int end = i;
            while (end < lines.length && !lines[end].equals(m.group(1) + "}")) {
                end++;
            }
            hold(end - i <= 60, "rule 11: " + (end - i) + " lines: " + lines[i].trim());
        }
    }
}
