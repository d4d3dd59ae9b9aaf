import java.lang.reflect.Constructor;
import java.lang.reflect.Field;
import java.lang.reflect.Method;
import java.lang.reflect.Modifier;
import java.nio.file.Files;
import java.nio.file.Path;
import java.util.Set;
import java.util.TreeSet;
import java.util.regex.Matcher;
import java.util.regex.Pattern;

/** What of ../shared/LANGUAGE.md can be seen from the class file and, without its comments, the text. */
public final class LanguageTest {
    private static final String[] FACE = {
        "map(II)", "site(IIIII)", "move(III)", "allow(IIZ)", "rule(II)", "about(II)", "free(II)", "clash(IIII)",
        "best()", "at(I)", "named()", "full()", "with(II)", "sure(I)", "greatest()", "least()",
        "put(II)", "hand(I)", "take()", "faults()", "faultsOf(I)", "stir()", "settle()", "stands()",
        "shown(I)", "comes(I)", "shownAt(I)",
        "crosses(I)", "length(I)", "place(II)", "cross(IIII)", "count(I)"};
    private static final Set<String> FACE_NAMES = namesOf(FACE);
    private static final Set<String> CONSTANTS = Set.of("UNKNOWN", "OUTSIDE", "STATE", "FULL", "NONE");
    private static final Set<String> LIBRARY = Set.of(
        "Math.max", "Math.min", "Math.abs", "Integer.bitCount", "System.arraycopy");
    private static final String BANNED = "\\b(import|package|throw|throws|try|catch|synchronized|assert)\\b|static \\{|->|::|@";
    private static int wrong = 0;

    private static Set<String> namesOf(String[] face) {
        Set<String> names = new TreeSet<>();
        for (String call : face) {
            names.add(call.substring(0, call.indexOf('(')));
        }
        return names;
    }

    private static void must(boolean is, int rule, String what) {
        if (!is) {
            wrong++;
            System.out.println("rule " + rule + ": " + what);
        }
    }

    public static void main(String[] args) throws Exception {
        face();
        classes();
        text(Files.readString(Path.of("src/main/java/MapNames.java")));
        System.out.println(wrong == 0 ? "the language is kept" : wrong + " rules are not kept");
        if (wrong != 0) {
            System.exit(1);
        }
    }

    private static void face() {
        must(Modifier.isPublic(MapNames.class.getModifiers()) && Modifier.isFinal(MapNames.class.getModifiers()), 1,
            "the class is public and final");
        Set<String> open = new TreeSet<>();
        Set<String> names = new TreeSet<>();
        for (Method m : MapNames.class.getDeclaredMethods()) {
            if (!Modifier.isPrivate(m.getModifiers())) {
                StringBuilder s = new StringBuilder(m.getName()).append('(');
                for (Class<?> type : m.getParameterTypes()) {
                    s.append(type == int.class ? "I" : type == boolean.class ? "Z" : "?");
                }
                open.add(s.append(')').toString());
                names.add(m.getName());
                must(Modifier.isPublic(m.getModifiers()) && m.getReturnType() == int.class, 1, "not of the face: " + m);
            }
        }
        must(open.equals(new TreeSet<>(Set.of(FACE))), 1, "the face is " + open);
        for (Method m : MapNames.class.getDeclaredMethods()) {
            must(!Modifier.isPrivate(m.getModifiers()) || !names.contains(m.getName()), 1, "a public name: " + m);
        }
        for (Constructor<?> c : MapNames.class.getDeclaredConstructors()) {
            must(Modifier.isPublic(c.getModifiers()) && c.getParameterCount() == 0, 1, "not of the face: " + c);
        }
        for (Field f : MapNames.class.getDeclaredFields()) {
            must(Modifier.isPrivate(f.getModifiers()) != CONSTANTS.contains(f.getName()), 1, "not of the face: " + f);
        }
    }

    private static void classes() {
        Class<?>[] inside = MapNames.class.getDeclaredClasses();
        must(inside.length <= 11, 11, "classes: " + inside.length);
        for (Class<?> c : inside) {
            must(Modifier.isStatic(c.getModifiers()), 2, "not static: " + c);
            must(c.getDeclaredFields().length <= 20, 11, "fields of " + c);
            for (Method m : c.getDeclaredMethods()) {
                must(m.getParameterCount() <= 7, 11, "parameters of " + m);
                must(!FACE_NAMES.contains(m.getName()), 1, "a public name: " + m);
            }
            for (Field f : c.getDeclaredFields()) {
                must(!Modifier.isStatic(f.getModifiers()) || Modifier.isFinal(f.getModifiers()), 5, "static: " + f);
            }
        }
        for (Field f : MapNames.class.getDeclaredFields()) {
            must(Modifier.isFinal(f.getModifiers()), 5, "not final: " + f);
        }
    }

    private static void text(String source) {
        String code = source.replaceAll("(?s)/\\*.*?\\*/", "").replaceAll("//[^\n]*", "");
        must(code.chars().allMatch(c -> c < 128), 3, "a character beyond 127");
        Matcher banned = Pattern.compile(BANNED).matcher(code);
        while (banned.find()) {
            must(false, 6, "not of the language: " + banned.group());
        }
        Matcher library = Pattern.compile("\\b[A-Z][A-Za-z]+\\.[a-zA-Z_]+").matcher(code);
        while (library.find()) {
            must(LIBRARY.contains(library.group()), 4, "not of the library: " + library.group());
        }
        // Rows are made in field initialisers alone: no call but the constructor makes an object.
        for (String line : code.split("\n")) {
            if (line.contains("new ")) {
                must(line.matches(" {8}final \\w+\\[\\] \\w+ = new \\w+\\[MOST_\\w+\\];")
                    || line.matches(" {8}\\w+ = new [A-Z]\\w+\\([a-z, ]*\\);"), 12, "made in a call: " + line.trim());
            }
        }
        int start = 0;
        String[] lines = code.split("\n");
        for (int i = 0; i < lines.length; i++) {
            if (lines[i].matches(" {4}(    )?[a-zA-Z].*\\) \\{")) {
                start = i;
            }
            if (lines[i].matches(" {4}(    )?\\}")) {
                must(i - start <= 60, 11, "a long method ends in line " + i + " of the code");
                start = i;
            }
        }
    }
}
