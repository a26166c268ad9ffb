import java.io.IOException;
import java.lang.reflect.Constructor;
import java.lang.reflect.Field;
import java.lang.reflect.Method;
import java.lang.reflect.Modifier;
import java.nio.file.Files;
import java.nio.file.Path;
import java.util.ArrayList;
import java.util.List;
import java.util.Set;
import java.util.TreeSet;
import java.util.regex.Matcher;
import java.util.regex.Pattern;

// The document's face, and of LANGUAGE.md what a look at the class and its source can find.
public final class Rules {
    private static final Path SOURCE = Path.of("src/main/java/WhichEncore.java");
    private static final String[] FACE = {
        "int write(int)", "int erase()", "int fault()", "int hall()", "int clapper(int,int)",
        "int encore(int,int)", "int as(int,int)", "int encoreAs(int,int)", "int can(int)", "int does(int)",
        "int undo()", "int keep(int)", "int back(int)", "int till()", "int there(int)", "int sound(int)",
        "int best(int)", "int row(int)", "int tear()", "int judge(int)", "long stay(int,int,int)",
        "int gone(int,int)", "int prepared(int)", "int other(int)", "int count(int)"};
    private static final String[] FORBIDDEN = {
        "\\b(throw|throws|try|catch|synchronized|assert|import|package|protected|volatile|native|var)\\b",
        "->", "::", "\\b(HashMap|Map|Set|Object|Optional|Stream|Random|Thread|Runtime)\\b",
        "\\w*Exact\\b", "\\.(hashCode|toString|format|split|trim|printf?|println)\\s*\\(",
        "\\bstatic\\s*\\{", "while\\s*\\(true\\)", "for\\s*\\(;;", "[^\\x00-\\x7f]"};
    private static final int MOST_LINES = 60, MOST_PARAMETERS = 7, MOST_CLASSES = 12, MOST_FIELDS = 20;
    private static int wrong;

    private static void fault(String what) {
        wrong++;
        System.out.println(what);
    }

    private static String types(Class<?>[] parameters) {
        List<String> names = new ArrayList<>();
        for (Class<?> p : parameters) {
            names.add(p.getSimpleName());
        }
        return "(" + String.join(",", names) + ")";
    }

    private static void lookAtFace() {
        Class<?> c = WhichEncore.class;
        if (!Modifier.isFinal(c.getModifiers()) || !Modifier.isPublic(c.getModifiers())) {
            fault("the class is not public and final");
        }
        Set<String> found = new TreeSet<>();
        Set<String> publicNames = new TreeSet<>();
        for (Method m : c.getDeclaredMethods()) {
            if (!Modifier.isPrivate(m.getModifiers())) {
                found.add(m.getReturnType().getSimpleName() + " " + m.getName() + types(m.getParameterTypes()));
                publicNames.add(m.getName());
                if (!Modifier.isPublic(m.getModifiers()) || Modifier.isStatic(m.getModifiers())) {
                    fault("not a public method of an object: " + m);
                }
            }
        }
        if (!found.equals(new TreeSet<>(List.of(FACE)))) {
            fault("the methods are " + found);
        }
        Constructor<?>[] constructors = c.getDeclaredConstructors();
        if (constructors.length != 1 || constructors[0].getParameterCount() != 0
            || !Modifier.isPublic(constructors[0].getModifiers())) {
            fault("not the one constructor");
        }
        Set<String> constants = new TreeSet<>();
        for (Field f : c.getDeclaredFields()) {
            if (!Modifier.isPrivate(f.getModifiers())) {
                constants.add(f.getName());
            }
        }
        if (!constants.equals(new TreeSet<>(List.of("NONE", "UNKNOWN", "OUTSIDE", "NOT", "FULL")))) {
            fault("the constants are " + constants);
        }
        lookAtInside(c, publicNames);
    }

    private static void lookAtInside(Class<?> c, Set<String> publicNames) {
        List<Class<?>> all = new ArrayList<>(List.of(c.getDeclaredClasses()));
        if (all.size() + 1 > MOST_CLASSES) {
            fault("too many classes");
        }
        for (Class<?> inside : all) {
            if (!Modifier.isStatic(inside.getModifiers()) || Modifier.isPublic(inside.getModifiers())) {
                fault("not static, or public: " + inside);
            }
        }
        all.add(c);
        for (Class<?> one : all) {
            int fields = 0;
            for (Field f : one.getDeclaredFields()) {
                fields += Modifier.isStatic(f.getModifiers()) ? 0 : 1;
                if (Modifier.isStatic(f.getModifiers()) && !Modifier.isFinal(f.getModifiers())) {
                    fault("static and not final: " + f);
                }
            }
            if (fields > MOST_FIELDS) {
                fault("too many fields: " + one);
            }
            for (Method m : one.getDeclaredMethods()) {
                if (m.getParameterCount() > MOST_PARAMETERS) {
                    fault("too many parameters: " + m);
                }
                boolean own = !Modifier.isPublic(m.getModifiers());
                if (own && publicNames.contains(m.getName())) {
                    fault("bears the name of a public method: " + m);
                }
            }
        }
    }

    private static void lookAtSource() throws IOException {
        String source = Files.readString(SOURCE);
        String code = source.replaceAll("(?s)/\\*.*?\\*/", "").replaceAll("//[^\n]*", "");
        for (String forbidden : FORBIDDEN) {
            Matcher m = Pattern.compile(forbidden).matcher(code);
            if (m.find()) {
                fault("forbidden in the source: " + m.group());
            }
        }
        int start = -1;
        String[] lines = source.split("\n");
        for (int i = 0; i < lines.length; i++) {
            if (lines[i].matches("( {4}| {8})[a-zA-Z].*\\) \\{")) {
                start = i;
            }
            if (start >= 0 && lines[i].matches(" {4}( {4})?\\}") && i - start + 1 > MOST_LINES) {
                fault("a method of too many lines: " + lines[start].trim());
            }
        }
    }

    public static void main(String[] args) throws IOException {
        lookAtFace();
        lookAtSource();
        System.out.println(wrong == 0 ? "all rules looked at are kept" : wrong + " rules are not kept");
        if (wrong != 0) {
            System.exit(1);
        }
    }
}
