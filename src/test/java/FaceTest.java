import java.io.IOException;
import java.lang.reflect.Constructor;
import java.lang.reflect.Field;
import java.lang.reflect.Method;
import java.lang.reflect.Modifier;
import java.nio.file.Files;
import java.nio.file.Path;
import java.util.Set;
import java.util.TreeSet;
import java.util.regex.Matcher;
import java.util.regex.Pattern;

/** The document's face and no other, and those rules of the language that text and classes show. */
public final class FaceTest {
    private static final Check CHECK = new Check();
    private static final String[] FACE = {
        "boolean wall(int, int)", "boolean cell(int, int, int, int)", "boolean motifs(int, int)", "boolean limit(int)",
        "boolean saw(int)", "int plan()", "int block(int, int)", "int at(int, int)", "boolean above(int, int)",
        "boolean river(int, int)", "int days(int)", "int take(int)", "int order()", "int ordered(int)",
        "int piled(int, int)", "int sun(int)", "int strikes(int, int)", "int like(int, int, int)", "int count(int)",
        "boolean image(int)", "boolean again(int)",
    };
    private static final String[] FORBIDDEN = {
        "\\bthrows?\\b", "\\btry\\b", "\\bcatch\\b", "\\bsynchronized\\b", "\\bassert\\b", "->", "::", "Exact\\b",
        "\\bpackage\\b", "\\bprotected\\b", "\\bstatic\\s*\\{", "\\bSystem\\.(?!arraycopy\\b)", "\\bThread\\b",
        "\\bRandom\\b", "\\bjava\\.(?!util\\.Arrays;)", "\\bObject\\b", "\\bdouble\\b", "\\bfloat\\b", "while\\s*\\(\\s*true",
        // Of these the functions alone are in the library's list, no constants.
        "\\b(Integer|Long|Math)\\.(?![a-z]\\w*\\()",
    };

    public static void main(String[] args) throws IOException {
        face();
        for (Class<?> inner : TempleRaised.class.getDeclaredClasses()) {
            inside(inner);
        }
        due("classes", TempleRaised.class.getDeclaredClasses().length + 1 <= 12, true);
        text(Files.readString(Path.of("src/main/java/TempleRaised.java")));
        CHECK.end();
    }

    private static void due(String what, boolean got, boolean want) {
        CHECK.due(what, got, want);
    }

    private static String signature(Method method) {
        StringBuilder text = new StringBuilder(method.getReturnType() + " " + method.getName() + "(");
        for (Class<?> type : method.getParameterTypes()) {
            text.append(text.charAt(text.length() - 1) == '(' ? "" : ", ").append(type);
        }
        return text.append(")").toString();
    }

    private static void face() {
        Class<?> face = TempleRaised.class;
        due("public and final", face.getModifiers() == (Modifier.PUBLIC | Modifier.FINAL), true);
        Set<String> wanted = new TreeSet<>(Set.of(FACE));
        Set<String> seen = new TreeSet<>();
        Set<String> names = new TreeSet<>();
        for (Method method : face.getDeclaredMethods()) {
            if (!Modifier.isPrivate(method.getModifiers())) {
                due(method + " is public alone", method.getModifiers() == Modifier.PUBLIC, true);
                seen.add(signature(method));
                names.add(method.getName());
            }
        }
        due("methods " + seen, seen.equals(wanted), true);
        for (Method method : face.getDeclaredMethods()) {
            if (Modifier.isPrivate(method.getModifiers())) {
                due(method + " has a name of its own", names.contains(method.getName()), false);
            }
        }
        Constructor<?>[] constructors = face.getDeclaredConstructors();
        due("one constructor", constructors.length == 1 && constructors[0].getParameterCount() == 0, true);
        due("it is public", constructors[0].getModifiers() == Modifier.PUBLIC, true);
        for (Field field : face.getDeclaredFields()) {
            due(field + " is private or NONE", Modifier.isPrivate(field.getModifiers()) || field.getName().equals("NONE"), true);
        }
        CHECK.due("NONE", TempleRaised.NONE, -1);
        fields(face);
    }

    private static void fields(Class<?> type) {
        int own = 0;
        for (Field field : type.getDeclaredFields()) {
            if (Modifier.isStatic(field.getModifiers())) {
                due(field + " is final", Modifier.isFinal(field.getModifiers()), true);
            } else {
                own++;
            }
        }
        due("some twenty fields in " + type, own <= 20, true);
    }

    private static void inside(Class<?> inner) {
        due(inner + " is static", Modifier.isStatic(inner.getModifiers()), true);
        due(inner + " is not public", (inner.getModifiers() & (Modifier.PUBLIC | Modifier.PROTECTED)) == 0, true);
        fields(inner);
        for (Method method : inner.getDeclaredMethods()) {
            due(method + " takes seven at most", method.getParameterCount() <= 7, true);
            due(method + " has a name of its own", String.join(" ", FACE).contains(" " + method.getName() + "("), false);
        }
    }

    private static void text(String source) {
        String code = source.replaceAll("(?s)/\\*.*?\\*/", "").replaceAll("//[^\n]*", "");
        for (String pattern : FORBIDDEN) {
            Matcher found = Pattern.compile(pattern).matcher(code);
            due("no '" + pattern + "' in the text", found.find(), false);
        }
        longestMethod(code);
    }

    private static void longestMethod(String code) {
        int start = 0;
        int number = 0;
        String indent = "";
        for (String line : code.split("\n")) {
            number++;
            Matcher head = Pattern.compile("( {4}| {8})(\\w[\\w\\[\\] ]*)\\(.*\\) \\{").matcher(line);
            if (head.matches()) {
                start = number;
                indent = head.group(1);
            } else if (start > 0 && line.equals(indent + "}")) {
                due("lines of the method at line " + start, number - start <= 60, true);
                start = 0;
            }
        }
    }
}
