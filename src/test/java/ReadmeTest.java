import java.lang.reflect.Method;
import java.lang.reflect.Modifier;
import java.nio.file.Files;
import java.nio.file.Path;
import java.util.Set;
import java.util.TreeSet;
import java.util.regex.Matcher;
import java.util.regex.Pattern;

/** Runs the calls that README.md shows, in their order: each answers what stands behind it, and no call is left out. */
public final class ReadmeTest {
    private static final Pattern CALL = Pattern.compile("m\\.(\\w+)\\((.*?)\\); *// (-?\\w+).*");
    private static int wrong = 0;

    public static void main(String[] args) throws Exception {
        MapNames m = null;
        boolean isCode = false;
        Set<String> left = new TreeSet<>();
        for (Method method : MapNames.class.getDeclaredMethods()) {
            if (Modifier.isPublic(method.getModifiers())) {
                left.add(method.getName());
            }
        }
        for (String line : Files.readAllLines(Path.of("README.md"))) {
            if (line.startsWith("```")) {
                isCode = line.equals("```java");
            } else if (isCode && line.equals("MapNames m = new MapNames();")) {
                m = new MapNames();
            } else if (isCode) {
                Matcher call = CALL.matcher(line);
                must(call.matches() && m != null, "not a call with its answer: " + line);
                if (call.matches() && m != null) {
                    int got = ask(m, call.group(1), call.group(2));
                    must(got == number(call.group(3)), line + " but it answered " + got);
                    left.remove(call.group(1));
                }
            }
        }
        must(left.isEmpty(), "calls that are not shown: " + left);
        System.out.println(wrong == 0 ? "README.md holds" : wrong + " lines of README.md do not hold");
        if (wrong != 0) {
            System.exit(1);
        }
    }

    private static void must(boolean is, String what) {
        if (!is) {
            wrong++;
            System.out.println(what);
        }
    }

    private static int ask(MapNames m, String name, String told) throws Exception {
        String[] texts = told.isEmpty() ? new String[0] : told.split(", ");
        Object[] values = new Object[texts.length];
        Class<?>[] types = new Class<?>[texts.length];
        for (int i = 0; i < texts.length; i++) {
            boolean isTruth = texts[i].equals("true") || texts[i].equals("false");
            types[i] = isTruth ? boolean.class : int.class;
            values[i] = isTruth ? (Object) Boolean.valueOf(texts[i]) : (Object) number(texts[i]);
        }
        return (Integer) MapNames.class.getMethod(name, types).invoke(m, values);
    }

    /** A number, or a constant of the class by its name. */
    private static int number(String text) throws Exception {
        return text.matches("-?\\d+") ? Integer.parseInt(text) : MapNames.class.getField(text).getInt(null);
    }
}
