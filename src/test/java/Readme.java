import java.lang.reflect.Method;
import java.nio.file.Files;
import java.nio.file.Path;
import java.util.Arrays;
import java.util.regex.Matcher;
import java.util.regex.Pattern;

// The calls that README.md shows answer what stands behind them, and it names every call.
public final class Readme extends Checks {
    private static final Pattern TEXT = Pattern.compile("String text = \"([^\"]+)\";");
    private static final Pattern CALL = Pattern.compile("(?m)^x\\.(\\w+)\\(([^)]*)\\);\\s+// (\\d+|[A-Z]+)\\b");
    private static final int LEAST_CALLS = 10;

    private static int number(String word) throws ReflectiveOperationException {
        String name = word.trim().replace("WhichEncore.", "");
        return name.matches("\\d+") ? Integer.parseInt(name) : WhichEncore.class.getField(name).getInt(null);
    }

    private static Method method(String name) throws ReflectiveOperationException {
        return Arrays.stream(WhichEncore.class.getDeclaredMethods())
            .filter(m -> m.getName().equals(name)).findFirst().orElseThrow(NoSuchMethodException::new);
    }

    private static void ask(WhichEncore x, Matcher shown) throws ReflectiveOperationException {
        String[] words = shown.group(2).isEmpty() ? new String[0] : shown.group(2).split(",");
        Object[] arguments = new Object[words.length];
        for (int i = 0; i < words.length; i++) {
            arguments[i] = number(words[i]);
        }
        Number got = (Number) method(shown.group(1)).invoke(x, arguments);
        due(number(shown.group(3)), got.longValue(), shown.group(1) + "(" + shown.group(2) + ")");
    }

    public static void main(String[] args) throws Exception {
        about("README.md");
        String readme = Files.readString(Path.of("README.md"));
        Matcher text = TEXT.matcher(readme);
        tally(text.find(), "shows no text");
        WhichEncore x = new WhichEncore();
        put(x, text.group(1));
        int shown = 0;
        for (Matcher call = CALL.matcher(readme); call.find(); shown++) {
            ask(x, call);
        }
        tally(shown >= LEAST_CALLS, "shows only " + shown + " calls");
        for (Method m : WhichEncore.class.getDeclaredMethods()) {
            boolean isPublic = java.lang.reflect.Modifier.isPublic(m.getModifiers());
            tally(!isPublic || readme.contains("`" + m.getName() + "`"), "does not name " + m.getName());
        }
        for (String name : new java.io.File("src/test/java").list()) {
            tally(readme.contains(name), "does not name the test " + name);
        }
        finish();
    }
}
