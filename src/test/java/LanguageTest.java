import java.lang.reflect.Constructor;
import java.lang.reflect.Field;
import java.lang.reflect.Method;
import java.lang.reflect.Modifier;
import java.nio.file.Files;
import java.nio.file.Path;
import java.util.List;
import java.util.Set;
import java.util.TreeSet;
import java.util.regex.Matcher;
import java.util.regex.Pattern;

/** The rules of LANGUAGE.md that can be seen from the source and the compiled class. */
public final class LanguageTest {
    private static final List<String> FACE = List.of("int tool(int)", "boolean edge(int,int,int)", "int barrel(int)",
            "boolean rust(int,int)", "int shot(int,int)", "int found()", "boolean hair(int,int,int)",
            "int at(int,int,int)", "int of(int,int)", "int feed(int,int,int,int,int)", "boolean end(int)", "int laws()",
            "int judgement(int)", "int fault(int)", "int looker(int)", "int slid(int,int,int,int)",
            "int says(int,int,int,boolean)", "int truth(int,int)", "int odds(int,int,int,int)", "int far(int,int)",
            "int own(int,int,int,int,int)", "int list(int,int,int)", "int pair(int,int,int)",
            "int counted(int,boolean,int)", "int round(int,int)", "int lean(int)", "boolean scene(int,int,boolean)",
            "int joined(int,int)", "int look(int)");

    public static void main(String[] args) throws Exception {
        String source = Files.readString(Path.of(args.length > 0 ? args[0] : "src/main/java/OneBarrel.java"));
        String code = source.replaceAll("(?s)/\\*.*?\\*/", " ").replaceAll("//[^\n]*", " ");
        face();
        privateNames();
        words(code.replaceAll("\"[^\"]*\"", "\"\"").replaceAll("'[^']'", "' '"));
        shapes();
        methodLengths(source);
        TestTools.close();
    }

    private static void face() throws Exception {
        Set<String> found = new TreeSet<>();
        for (Method m : OneBarrel.class.getDeclaredMethods()) {
            if (!Modifier.isPrivate(m.getModifiers()) && !m.isSynthetic()) {
                String text = m.toString().replace("public ", "").replace("OneBarrel.", "");
                found.add(text);
            }
        }
        TestTools.due("the face " + found, found.equals(new TreeSet<>(FACE)), true);
        for (Field f : OneBarrel.class.getDeclaredFields()) {
            boolean isNone = f.getName().equals("NONE") && Modifier.isPublic(f.getModifiers());
            TestTools.due("field " + f.getName(), isNone || Modifier.isPrivate(f.getModifiers()), true);
        }
        TestTools.due("NONE", OneBarrel.NONE, -1);
        Constructor<?>[] made = OneBarrel.class.getDeclaredConstructors();
        TestTools.due("constructors", made.length, 1);
        TestTools.due("public", Modifier.isPublic(made[0].getModifiers()), true);
        TestTools.due("final", Modifier.isFinal(OneBarrel.class.getModifiers()), true);
    }

    private static void privateNames() {
        Set<String> names = new TreeSet<>();
        FACE.forEach(f -> names.add(f.substring(f.indexOf(' ') + 1, f.indexOf('('))));
        for (Class<?> inner : OneBarrel.class.getDeclaredClasses()) {
            for (Method m : inner.getDeclaredMethods()) {
                TestTools.due(inner.getSimpleName() + "." + m.getName(), names.contains(m.getName()), false);
            }
        }
        for (Method m : OneBarrel.class.getDeclaredMethods()) {
            if (Modifier.isPrivate(m.getModifiers())) {
                TestTools.due("private " + m.getName(), names.contains(m.getName()), false);
            }
        }
    }

    private static void words(String code) {
        List<String> banned = List.of("\\bthrow\\b", "\\btry\\b", "\\bcatch\\b", "\\bsynchronized\\b", "\\bassert\\b",
                "->", "::", "\\bpackage\\b", "\\bObject\\b", "\\bSystem\\.(?!arraycopy)", "\\bhashCode\\b",
                "\\btoString\\b", "Exact\\b", "\\bdouble\\b", "\\bfloat\\b", "\\bwhile\\b", "\"\\s*\\+", "\\+\\s*\"",
                "static\\s*\\{", "\\bThread\\b", "\\bvar\\b", "\\bInteger\\.(?!bitCount)");
        for (String word : banned) {
            Matcher m = Pattern.compile(word).matcher(code);
            TestTools.due("uses " + word, m.find(), false);
        }
        Matcher imports = Pattern.compile("import ([^;]+);").matcher(code);
        while (imports.find()) {
            TestTools.due("import " + imports.group(1), imports.group(1).equals("java.util.Arrays"), true);
        }
    }

    private static void shapes() {
        Class<?>[] inner = OneBarrel.class.getDeclaredClasses();
        TestTools.due("classes " + (inner.length + 1), inner.length + 1 <= 12, true);
        checkShape(OneBarrel.class);
        for (Class<?> type : inner) {
            TestTools.due(type + " is static", Modifier.isStatic(type.getModifiers()), true);
            checkShape(type);
        }
    }

    private static void checkShape(Class<?> type) {
        int fields = 0;
        for (Field f : type.getDeclaredFields()) {
            if (Modifier.isStatic(f.getModifiers())) {
                TestTools.due(f + " is final", Modifier.isFinal(f.getModifiers()), true);
            } else {
                fields++;
            }
        }
        TestTools.due(type + " has " + fields + " fields", fields <= 20, true);
        for (Method m : type.getDeclaredMethods()) {
            TestTools.due(m + "'s parameters", m.getParameterCount() <= 7, true);
        }
    }

    /** From a line that opens a method to the one that closes it, by their indents. */
    private static void methodLengths(String source) {
        String[] lines = source.split("\n");
        Pattern head = Pattern.compile("^( {4}| {8})(public|private|static|int|boolean|void|Text)\\b.*\\) \\{$");
        for (int n = 0; n < lines.length; n++) {
            Matcher m = head.matcher(lines[n]);
            if (m.find()) {
                int close = n;
                while (!lines[close].equals(m.group(1) + "}")) {
                    close++;
                }
                TestTools.due(lines[n].trim() + " has " + (close - n) + " lines", close - n <= 60, true);
            }
        }
    }
}
