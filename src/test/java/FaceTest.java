import java.io.IOException;
import java.lang.reflect.Constructor;
import java.lang.reflect.Field;
import java.lang.reflect.Method;
import java.lang.reflect.Modifier;
import java.nio.file.Files;
import java.nio.file.Path;
import java.util.Arrays;
import java.util.List;
import java.util.Set;
import java.util.TreeSet;
import java.util.regex.Matcher;
import java.util.regex.Pattern;

/** The public face as the document has it, and those rules of LANGUAGE.md that can be seen from outside. */
public final class FaceTest {
    private static final String[] FACE = {
        "book int", "quote int int boolean", "hate int int boolean", "prop int boolean", "thick int int", "rule int int",
        "touch int int", "type long int", "books", "hall", "at int", "count int", "judged", "rows int", "row int int int",
        "cut int", "put int", "lend int", "forged int int", "apart int int int", "free int", "burnt int int int int int",
        "image", "restore", "walk int int int int", "joined int int int int", "sheet int int int", "drop int",
        "item int int int long", "copy int int int int int"};
    private static final String[] CONSTANTS = {
        "BAD -1", "NOT -2", "FULL -3", "NONE -4", "NULL -11", "CAST -12", "INDEX -13", "SIZE -14"};
    private static final String[] BANNED = {
        "\\btry\\b", "\\bcatch\\b", "\\bfinally\\b", "\\bsynchronized\\b", "\\bassert\\b", "->", "::", "\\bprotected\\b",
        "\\bthrow\\b", "Exact\\b", "\\bSystem\\.(?!arraycopy)", "\\bdouble\\b", "\\bfloat\\b", "\\bObject\\b", "\\bvar\\b", "@"};
    private static int wrong = 0;

    private static void hold(boolean holds, String what) {
        if (!holds) {
            wrong++;
            System.out.println("does not hold: " + what);
        }
    }

    private static void members() throws IllegalAccessException {
        Set<String> seen = new TreeSet<>();
        Set<String> names = new TreeSet<>();
        for (String told : FACE) {
            names.add(told.split(" ")[0]);
        }
        for (Method method : BesideQuotes.class.getDeclaredMethods()) {
            if (Modifier.isPrivate(method.getModifiers())) {
                hold(!names.contains(method.getName()), "no private method is named " + method.getName());
                continue;
            }
            StringBuilder told = new StringBuilder(method.getName());
            for (Class<?> type : method.getParameterTypes()) {
                told.append(' ').append(type.getName());
            }
            hold(method.getModifiers() == Modifier.PUBLIC && method.getReturnType() == int.class, "public int " + told);
            seen.add(told.toString());
        }
        hold(seen.equals(new TreeSet<>(Arrays.asList(FACE))), "the methods are those of the document: " + seen);
        Set<String> constants = new TreeSet<>();
        for (Field field : BesideQuotes.class.getDeclaredFields()) {
            if (!Modifier.isPrivate(field.getModifiers())) {
                constants.add(field.getName() + " " + field.getInt(null));
            }
        }
        hold(constants.equals(new TreeSet<>(Arrays.asList(CONSTANTS))), "the constants: " + constants);
        Constructor<?>[] made = BesideQuotes.class.getDeclaredConstructors();
        hold(made.length == 1 && made[0].getParameterCount() == 0, "one constructor");
        hold(Modifier.isFinal(BesideQuotes.class.getModifiers()), "final");
        Class<?>[] inside = BesideQuotes.class.getDeclaredClasses();
        hold(inside.length < 12, "some twelve classes");
        for (Class<?> one : inside) {
            hold(Modifier.isStatic(one.getModifiers()), one + " is static");
        }
    }

    private static void source() throws IOException {
        List<String> lines = Files.readAllLines(Path.of("src/main/java/BesideQuotes.java"));
        int begin = 0;
        for (int n = 0; n < lines.size(); n++) {
            String code = lines.get(n).replaceAll("//.*|^ */?\\*.*", "");
            for (String banned : BANNED) {
                Matcher found = Pattern.compile(banned).matcher(code);
                hold(!found.find(), "line " + (n + 1) + " has no " + banned);
            }
            hold(!code.startsWith("import") || code.equals("import java.util.Arrays;"), "line " + (n + 1) + " imports");
            if (code.matches(" {4}(    )?[a-z][\\w\\[\\] ]*\\(.*\\{")) {
                begin = n;
            }
            if (code.matches(" {4}(    )?\\}")) {
                hold(begin == 0 || n - begin <= 60, "the method at line " + (begin + 1) + " is short");
                begin = 0;
            }
        }
    }

    public static void main(String[] args) throws IllegalAccessException, IOException {
        members();
        source();
        System.out.println(wrong == 0 ? "the face is as told" : wrong + " do not hold");
        if (wrong != 0) {
            System.exit(1);
        }
    }
}
