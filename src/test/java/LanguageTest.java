import java.nio.file.Files;
import java.nio.file.Path;
import java.lang.reflect.Constructor;
import java.lang.reflect.Field;
import java.lang.reflect.Method;
import java.lang.reflect.Modifier;
import java.util.HashSet;
import java.util.Set;
import java.util.regex.Matcher;
import java.util.regex.Pattern;

/** What of ../shared/LANGUAGE.md can be seen in the text of the class and in its compiled face. */
public final class LanguageTest {
    private static final String[] FORBIDDEN = {
        "throw", "throws", "try", "catch", "finally", "synchronized", "assert", "import", "package", "native", "volatile",
        "transient", "hashCode", "toString", "System\\.out", "System\\.err", "System\\.exit", "Random", "Thread",
        "nanoTime", "currentTimeMillis", "[a-z]+Exact", "Object", "Map", "Set", "Stream", "Optional", "->", "::"
    };

    public static void main(String[] args) throws Exception {
        String text = withoutComments(Files.readString(Path.of("src/main/java/QuadWorlds.java")));
        for (String word : FORBIDDEN) {
            String sought = Character.isLetter(word.charAt(0)) || word.charAt(0) == '[' ? "\\b" + word + "\\b" : word;
            Matcher m = Pattern.compile(sought).matcher(text);
            Due.is("the file has the word " + word, 0, m.find() ? 1 : 0);
        }
        Matcher calls = Pattern.compile("\\b(Math|Long|Integer|System|Arrays|String)\\.(\\w+)").matcher(text);
        Set<String> allowed = Set.of("Math.max", "Math.min", "Math.abs", "Math.floorMod", "Math.floorDiv",
            "Long.bitCount", "System.arraycopy");
        while (calls.find()) {
            Due.is("a library call: " + calls.group(), 1, allowed.contains(calls.group()) ? 1 : 0);
        }
        checkFace();
        checkLength(text);
        Due.end("LanguageTest");
    }

    private static String withoutComments(String text) {
        return text.replaceAll("(?s)/\\*.*?\\*/", "").replaceAll("//[^\n]*", "");
    }

    private static void checkFace() {
        Class<?> face = QuadWorlds.class;
        Due.is("the class is public and final", Modifier.PUBLIC | Modifier.FINAL, face.getModifiers());
        Set<String> names = new HashSet<>();
        for (Method m : face.getDeclaredMethods()) {
            if (Modifier.isPublic(m.getModifiers())) {
                Due.is("the name of " + m + " is new", 1, names.add(m.getName()) ? 1 : 0);
                Due.is(m + " is not static", 0, Modifier.isStatic(m.getModifiers()) ? 1 : 0);
            } else {
                Due.is(m + " is private", 1, m.isSynthetic() || Modifier.isPrivate(m.getModifiers()) ? 1 : 0);
            }
        }
        Due.is("the number of public methods", 36, names.size());
        int constants = 0;
        for (Field f : face.getDeclaredFields()) {
            if (Modifier.isPublic(f.getModifiers())) {
                constants++;
            } else {
                Due.is(f + " is private", 1, Modifier.isPrivate(f.getModifiers()) ? 1 : 0);
            }
            checkStatic(f);
        }
        Due.is("the number of constants", 6, constants);
        for (Constructor<?> c : face.getDeclaredConstructors()) {
            Due.is(c + " is public", 1, Modifier.isPublic(c.getModifiers()) ? 1 : 0);
        }
        Due.is("the number of constructors", 1, face.getDeclaredConstructors().length);
        int classes = 1;
        for (Class<?> inside : face.getDeclaredClasses()) {
            classes++;
            Due.is(inside + " is static", 1, Modifier.isStatic(inside.getModifiers()) ? 1 : 0);
            Due.is(inside + " is not public", 0, Modifier.isPublic(inside.getModifiers()) ? 1 : 0);
            for (Method m : inside.getDeclaredMethods()) {
                Due.is(m + " bears the name of a public one", 0, names.contains(m.getName()) ? 1 : 0);
            }
            for (Field f : inside.getDeclaredFields()) {
                checkStatic(f);
            }
        }
        Due.is("classes are 12 at most", 1, classes <= 12 ? 1 : 0);
        for (Method m : face.getDeclaredMethods()) {
            if (Modifier.isPrivate(m.getModifiers())) {
                Due.is(m + " bears the name of a public one", 0, names.contains(m.getName()) ? 1 : 0);
            }
            Due.is(m + " has 7 parameters at most", 1, m.getParameterCount() <= 7 ? 1 : 0);
        }
    }

    private static void checkStatic(Field f) {
        if (Modifier.isStatic(f.getModifiers()) && !f.isSynthetic()) {
            Due.is(f + " is final", 1, Modifier.isFinal(f.getModifiers()) ? 1 : 0);
        }
    }

    /** A method of some sixty lines at most, told by the braces. */
    private static void checkLength(String text) {
        String[] lines = text.split("\n");
        int depth = 0;
        int inside = 0;
        int begun = 0;
        for (int i = 0; i < lines.length; i++) {
            String line = lines[i];
            boolean opens = line.endsWith(") {") && !line.matches("\\s*(}? ?(else )?if|for|while|switch).*");
            if (opens && inside == 0) {
                inside = depth + 1;
                begun = i;
            }
            for (char c : line.toCharArray()) {
                depth += c == '{' ? 1 : c == '}' ? -1 : 0;
            }
            if (inside > 0 && depth < inside) {
                Due.is("the method at line " + begun + " is short: " + lines[begun].trim(), 1, i - begun < 60 ? 1 : 0);
                inside = 0;
            }
        }
    }
}
