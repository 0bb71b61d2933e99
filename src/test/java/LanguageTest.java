import java.io.IOException;
import java.lang.reflect.Constructor;
import java.lang.reflect.Field;
import java.lang.reflect.Method;
import java.lang.reflect.Modifier;
import java.nio.file.Files;
import java.nio.file.Path;
import java.util.ArrayList;
import java.util.List;
import java.util.TreeSet;
import java.util.regex.Pattern;

/** The document's face, and what of LANGUAGE.md can be seen from outside or from the text. */
public final class LanguageTest {
    private static final String A = "IllegalArgumentException";
    private static final String S = "IllegalStateException";
    private static final String N = "NoSuchElementException";
    private static final String I = "IndexOutOfBoundsException";
    private static final String U = "UnsupportedOperationException";

    private static final String[] FACE = {
        "void net 1 " + A + " " + S,
        "int link 2 " + N + " " + A + " " + S + " " + U,
        "int word 5 " + A + " " + S + " " + U,
        "int builtin 1 " + A + " " + S,
        "void cutAt 1 " + A + " " + S,
        "int check 0",
        "void input 3 " + N + " " + I + " " + S,
        "void lockstep 1 " + A + " " + S,
        "int plain 2 " + N + " " + I,
        "int prepare 2 " + A + " " + S,
        "void release 0 " + S,
        "void stopAt 1 " + S + " " + A,
        "int letters 0",
        "int letter 2 " + I,
        "int deliver 1 " + I,
        "int deliverAll 3 " + A + " " + S,
        "int switchTo 1 " + A + " " + S + " " + U,
        "int roundOf 1 " + N + " " + S,
        "int value 2 " + N + " " + I + " " + S,
        "int place 2 " + N + " " + I + " " + S,
        "int chosen 2 " + I,
        "int count 1 " + I,
    };

    private static final String[] FORBIDDEN = {
        "->", "::", "\\bsynchronized\\b", "\\bassert\\b", "\\bfinally\\b", "\\btry\\b",
        "\\bthread", "\\bSystem\\.(?!arraycopy)", "\\bMath\\.(?!max|min)", "\\bInteger\\.(?!bitCount)",
        "\\bArrays\\.(?!fill)", "Exact\\(", "\\bprotected\\b", "^package", "\\bnative\\b",
        "\\bstatic \\{", "\\bwhile \\(true\\)", "for \\(;;", "\t",
    };

    public static void main(String[] args) throws IOException {
        face();
        nestedClasses();
        text();
        Checks.end();
    }

    private static void face() {
        List<String> found = new ArrayList<>();
        TreeSet<String> publicNames = new TreeSet<>();
        for (Method m : LockstepNet.class.getDeclaredMethods()) {
            int mods = m.getModifiers();
            if (!Modifier.isPrivate(mods)) {
                StringBuilder line = new StringBuilder();
                line.append(m.getReturnType()).append(' ').append(m.getName()).append(' ');
                line.append(m.getParameterCount());
                for (Class<?> e : m.getExceptionTypes()) {
                    line.append(' ').append(e.getSimpleName());
                }
                found.add(line.toString());
                publicNames.add(m.getName());
                Checks.due(m + " is public", true, mods == Modifier.PUBLIC);
            }
        }
        Checks.due("the methods", new TreeSet<>(List.of(FACE)), new TreeSet<>(found));
        Checks.due("no two of a name", found.size(), publicNames.size());
        for (Field f : LockstepNet.class.getDeclaredFields()) {
            Checks.due(f + " is private", true, Modifier.isPrivate(f.getModifiers()));
        }
        Constructor<?>[] made = LockstepNet.class.getDeclaredConstructors();
        Checks.due("one constructor", 1, made.length);
        Checks.due("for all", Modifier.PUBLIC, made[0].getModifiers());
        Checks.due("the class", Modifier.PUBLIC | Modifier.FINAL, LockstepNet.class.getModifiers());
        List<Class<?>> all = new ArrayList<>(List.of(LockstepNet.class.getDeclaredClasses()));
        all.add(LockstepNet.class);
        for (Class<?> c : all) {
            for (Method m : c.getDeclaredMethods()) {
                Checks.due(m + " bears a name of its own", false,
                        !Modifier.isPublic(m.getModifiers()) && publicNames.contains(m.getName()));
                Checks.due(m + " has at most 7 parameters", true, m.getParameterCount() <= 7);
            }
        }
    }

    private static void nestedClasses() {
        Class<?>[] nested = LockstepNet.class.getDeclaredClasses();
        Checks.due("at most 12 classes", true, nested.length < 12);
        for (Class<?> c : nested) {
            Checks.due(c + " is static", true, Modifier.isStatic(c.getModifiers()));
            int fields = 0;
            for (Field f : c.getDeclaredFields()) {
                boolean constant = Modifier.isStatic(f.getModifiers());
                fields += constant ? 0 : 1;
                Checks.due(f + " static is final", true,
                        !constant || Modifier.isFinal(f.getModifiers()));
            }
            Checks.due(c + " has at most 20 fields", true, fields <= 20);
        }
    }

    private static void text() throws IOException {
        String source = Files.readString(Path.of("src/main/java/LockstepNet.java"));
        String code = source.replaceAll("(?s)/\\*.*?\\*/", "");
        for (String pattern : FORBIDDEN) {
            Checks.due("no " + pattern, false,
                    Pattern.compile(pattern, Pattern.MULTILINE).matcher(code).find());
        }
        TreeSet<String> imports = new TreeSet<>();
        int start = 0;
        String[] lines = code.split("\n");
        for (int i = 0; i < lines.length; i++) {
            if (lines[i].startsWith("import ")) {
                imports.add(lines[i]);
            }
            if (lines[i].matches("(    ){1,2}[a-z].*\\(.*")) {
                start = i;
            }
            if (lines[i].matches("(    ){1,2}\\}")) {
                Checks.due("short: " + lines[start], true, i - start < 60);
            }
        }
        Checks.due("imports", new TreeSet<>(List.of("import java.util.Arrays;",
                "import java.util.NoSuchElementException;")), imports);
    }
}
