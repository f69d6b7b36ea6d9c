import java.io.IOException;
import java.lang.reflect.Constructor;
import java.lang.reflect.Field;
import java.lang.reflect.Method;
import java.lang.reflect.Modifier;
import java.nio.file.Files;
import java.nio.file.Path;
import java.util.HashSet;
import java.util.List;
import java.util.Set;
import java.util.TreeSet;
import java.util.regex.Matcher;
import java.util.regex.Pattern;

/** What of LANGUAGE.md can be seen from outside: the face, and words that may not stand in the source. */
public final class RulesTest {
    private static final Set<String> FACE = Set.of("set", "terminal", "word", "signal", "noise", "frame", "once", "feed",
        "end", "table", "events", "event", "count", "fault", "line", "load", "fits", "spread", "of", "at", "smooth", "log",
        "trail", "heard", "bus", "tally", "waits", "parity", "would", "image", "look");

    public static void main(String[] args) throws IOException {
        face();
        inside();
        source(Files.readString(Path.of("src/main/java/CommandBus.java")));
        Kit.finish();
    }

    private static void face() {
        Class<?> c = CommandBus.class;
        Kit.due("final", true, Modifier.isFinal(c.getModifiers()) && Modifier.isPublic(c.getModifiers()));
        Set<String> names = new TreeSet<>();
        for (Method m : c.getDeclaredMethods()) {
            if (!Modifier.isPrivate(m.getModifiers())) {
                Kit.due(m + " is public", true, Modifier.isPublic(m.getModifiers()));
                names.add(m.getName());
            } else {
                Kit.due(m + " has a name of its own", false, FACE.contains(m.getName()));
            }
        }
        Kit.due("face " + names, true, names.equals(FACE));
        for (Field f : c.getDeclaredFields()) {
            Kit.due(f + " is private", true, Modifier.isPrivate(f.getModifiers()) || f.getName().equals("NONE"));
            Kit.due(f + " is final if static", true,
                !Modifier.isStatic(f.getModifiers()) || Modifier.isFinal(f.getModifiers()));
        }
        for (Constructor<?> k : c.getDeclaredConstructors()) {
            Kit.due("constructor", 0, k.getParameterCount());
        }
    }

    private static void inside() {
        Class<?>[] classes = CommandBus.class.getDeclaredClasses();
        Kit.due("classes", true, classes.length <= 12);
        for (Class<?> c : classes) {
            Kit.due(c + " is static", true, Modifier.isStatic(c.getModifiers()) && !Modifier.isPublic(c.getModifiers()));
            int fields = 0;
            for (Field f : c.getDeclaredFields()) {
                fields += Modifier.isStatic(f.getModifiers()) ? 0 : 1;
                Kit.due(f + " is final if static", true,
                    !Modifier.isStatic(f.getModifiers()) || Modifier.isFinal(f.getModifiers()));
            }
            Kit.due(c + " has few fields", true, fields <= 20);
            Set<String> seen = new HashSet<>();
            for (Method m : c.getDeclaredMethods()) {
                Kit.due(m + " has a name of its own", false, FACE.contains(m.getName()));
                Kit.due(m + " takes at most seven", true, m.getParameterCount() <= 7);
                Kit.due(m + " stands once", true, seen.add(m.getName()));
            }
        }
    }

    private static void source(String text) {
        String code = text.replaceAll("(?s)/\\*.*?\\*/", "").replaceAll("//[^\n]*", "");
        List<String> ruledOut = List.of("throw", "try", "catch", "finally", "synchronized", "assert", "protected", "lambda",
            "Float", "Double", "NaN", "instanceof", "Object", "equals", "hashCode", "toString", "Random", "Thread",
            "currentTimeMillis", "nanoTime", "String\\.format", "Exact", "var", "yield", "record");
        for (String word : ruledOut) {
            Kit.due(word, false, Pattern.compile("\\b" + word + "\\b").matcher(code).find());
        }
        Kit.due("arrows", false, code.contains("->") || code.contains("::"));
        Matcher imports = Pattern.compile("import ([\\w.]+);").matcher(code);
        while (imports.find()) {
            Kit.due("import", true, imports.group(1).equals("java.util.Arrays"));
        }
        Matcher library = Pattern.compile("\\b(System|Arrays|Math|Integer|Long)\\.(\\w+)").matcher(code);
        Set<String> allowed = Set.of("System.arraycopy", "Arrays.fill", "Math.max", "Math.min", "Integer.bitCount", "Long.bitCount");
        while (library.find()) {
            Kit.due(library.group(), true, allowed.contains(library.group()));
        }
        for (int i = 0; i < text.length(); i++) {
            if (text.charAt(i) > 127) {
                Kit.due("sign " + (int) text.charAt(i), true, false);
            }
        }
        methodLengths(code);
    }

    private static void methodLengths(String code) {
        String[] lines = code.split("\n");
        int start = -1;
        String indent = "";
        for (int i = 0; i < lines.length; i++) {
            Matcher m = Pattern.compile("^( {4}| {8})(?!.*\\bclass\\b)\\S.*\\) \\{$").matcher(lines[i]);
            if (start < 0 && m.find()) {
                start = i;
                indent = m.group(1);
            } else if (start >= 0 && lines[i].equals(indent + "}")) {
                Kit.due("length of " + lines[start].trim(), true, i - start < 60);
                start = -1;
            }
        }
    }
}
