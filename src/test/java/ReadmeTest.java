import java.lang.reflect.Method;
import java.lang.reflect.Modifier;
import java.nio.file.Files;
import java.nio.file.Path;
import java.util.Set;
import java.util.TreeSet;
import java.util.regex.Matcher;
import java.util.regex.Pattern;

/** README.md tells how the class is used: its calls answer what stands behind them, and it names every call. */
public final class ReadmeTest {
    private static final Pattern USE = Pattern.compile("x\\.(\\w+)\\((.*)\\); +// (?:QuadWorlds\\.)?(-?\\w+)(:.*)?");

    public static void main(String[] args) throws Exception {
        String text = Files.readString(Path.of("README.md"));
        runBlock(text);
        namesAllCalls(text);
        Due.end("ReadmeTest");
    }

    private static void runBlock(String text) throws ReflectiveOperationException {
        QuadWorlds x = null;
        boolean inBlock = false;
        int uses = 0;
        for (String line : text.split("\n")) {
            Matcher m = USE.matcher(line);
            if (line.startsWith("```")) {
                inBlock = line.equals("```java");
            } else if (inBlock && line.equals("QuadWorlds x = new QuadWorlds();")) {
                x = new QuadWorlds();
            } else if (inBlock && m.matches() && x != null) {
                uses++;
                Due.is("README: " + line, valueOf(m.group(3)), answer(x, m.group(1), m.group(2)));
            } else if (inBlock) {
                Due.is("README: whether this line is read: " + line, 1, line.isEmpty() || line.startsWith("//") ? 1 : 0);
            }
        }
        Due.is("README: whether there are calls", 1, uses > 0 ? 1 : 0);
    }

    private static long valueOf(String word) throws ReflectiveOperationException {
        return Character.isLetter(word.charAt(0)) ? QuadWorlds.class.getField(word).getInt(null) : Long.parseLong(word);
    }

    private static long answer(QuadWorlds x, String name, String list) throws ReflectiveOperationException {
        String[] words = list.isEmpty() ? new String[0] : list.split(", ");
        for (Method m : QuadWorlds.class.getMethods()) {
            if (m.getName().equals(name) && m.getParameterCount() == words.length) {
                Object[] values = new Object[words.length];
                for (int i = 0; i < words.length; i++) {
                    values[i] = value(m.getParameterTypes()[i], words[i]);
                }
                return ((Number) m.invoke(x, values)).longValue();
            }
        }
        throw new NoSuchMethodException(name + "(" + list + ")");
    }

    private static Object value(Class<?> type, String word) {
        if (type == boolean.class) {
            return Boolean.valueOf(word);
        }
        return type == long.class ? (Object) Long.valueOf(word) : (Object) Integer.valueOf(word);
    }

    private static void namesAllCalls(String text) {
        Set<String> named = new TreeSet<>();
        Matcher m = Pattern.compile("`(\\w+)`").matcher(text);
        while (m.find()) {
            named.add(m.group(1));
        }
        for (Method call : QuadWorlds.class.getDeclaredMethods()) {
            if (Modifier.isPublic(call.getModifiers())) {
                Due.is("whether README names " + call.getName(), 1, named.contains(call.getName()) ? 1 : 0);
            }
        }
    }
}
