import java.io.IOException;
import java.lang.reflect.InvocationTargetException;
import java.lang.reflect.Method;
import java.lang.reflect.Modifier;
import java.nio.file.Files;
import java.nio.file.Path;
import java.util.HashMap;
import java.util.Map;
import java.util.TreeSet;
import java.util.regex.Matcher;
import java.util.regex.Pattern;

/** README.md's calls answer what it says, and its table has all of them. Run from the project's folder. */
public final class ReadmeTest {
    private static final Pattern CALL =
        Pattern.compile("^(?:int (\\w+) = )?x\\.(\\w+)\\((.*)\\); +// -> (-?\\d+)", Pattern.MULTILINE);

    private static final Map<String, Method> METHODS = new HashMap<>();
    private static final Map<String, Integer> NAMED = new HashMap<>();
    private static int wrong = 0;

    public static void main(String[] args) throws IOException, ReflectiveOperationException {
        for (Method m : ShadowSchool.class.getDeclaredMethods()) {
            if (Modifier.isPublic(m.getModifiers())) {
                METHODS.put(m.getName(), m);
            }
        }
        String text = Files.readString(Path.of("README.md"));
        calls(text.substring(text.indexOf("```java"), text.lastIndexOf("```")));
        table(text);
        System.out.println(wrong == 0 ? "README.md tells what is so" : wrong + " things are not as README.md tells");
        if (wrong != 0) {
            System.exit(1);
        }
    }

    private static void calls(String code) throws IllegalAccessException, InvocationTargetException {
        ShadowSchool x = new ShadowSchool();
        Matcher call = CALL.matcher(code);
        int count = 0;
        while (call.find()) {
            count++;
            int answer = (int) METHODS.get(call.group(2)).invoke(x, numbers(METHODS.get(call.group(2)), call.group(3)));
            if (call.group(1) != null) {
                NAMED.put(call.group(1), answer);
            }
            due(answer == Integer.parseInt(call.group(4)), call.group() + ", but it answers " + answer);
        }
        due(count == code.split("// ->", -1).length - 1, "only " + count + " calls could be read");
    }

    private static Object[] numbers(Method m, String told) {
        Object[] all = new Object[m.getParameterCount()];
        String[] parts = told.split(", ");
        for (int k = 0; k < all.length; k++) {
            long v = number(parts[k]);
            all[k] = m.getParameterTypes()[k] == long.class ? (Object) v : (Object) (int) v;
        }
        return all;
    }

    /** A number, or the name of an answer, and perhaps 1 more. */
    private static long number(String told) {
        String first = told.replace(" + 1", "").replaceAll("L$", "");
        long v = NAMED.containsKey(first) ? NAMED.get(first) : Long.decode(first);
        return told.endsWith(" + 1") ? v + 1 : v;
    }

    private static void table(String text) {
        TreeSet<String> left = new TreeSet<>(METHODS.keySet());
        Matcher line = Pattern.compile("^\\| [^|]+ \\| ([^|]+) \\| [0-9to, ]+ \\|$", Pattern.MULTILINE).matcher(text);
        while (line.find()) {
            for (String name : line.group(1).split(", ")) {
                due(left.remove(name), "the table has " + name);
            }
        }
        due(left.isEmpty(), "the table lacks " + left);
    }

    private static void due(boolean isSo, String what) {
        if (!isSo) {
            wrong++;
            System.out.println(what);
        }
    }
}
