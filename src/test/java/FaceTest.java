import java.lang.reflect.Constructor;
import java.lang.reflect.Field;
import java.lang.reflect.Method;
import java.lang.reflect.Modifier;
import java.nio.file.Files;
import java.nio.file.Path;
import java.util.ArrayList;
import java.util.List;
import java.util.Set;
import java.util.TreeSet;
import java.util.regex.Matcher;
import java.util.regex.Pattern;

/** "The public face": each constant, constructor and call as the document writes it, and no other (promises 1 to 37). */
public final class FaceTest {
    private static final Path DOCUMENT = Path.of("../shared/DOC.md");
    private static final Pattern CONSTANT = Pattern.compile("([A-Z]+) = (-?[0-9]+)");
    private static final Pattern CALL = Pattern.compile("public (\\w+) (\\w+)\\((.*)\\);");
    private static final Pattern HEADING = Pattern.compile("## Promise ([0-9]+): (\\w+)");

    public static void main(String[] args) throws Exception {
        List<String> document = Files.readAllLines(DOCUMENT);
        List<String> face = faceOf(document);
        sameSets("constants", constantsTold(face), constantsThere());
        sameSets("constructors", constructorsTold(face), constructorsThere());
        sameSets("calls", callsTold(face), callsThere());
        checkPromises(document, face);
        Due.end("FaceTest");
    }

    /** The lines of the first block of Java behind "The public face". */
    private static List<String> faceOf(List<String> document) {
        List<String> face = new ArrayList<>();
        boolean inFace = false;
        boolean inBlock = false;
        for (String line : document) {
            if (line.startsWith("## ")) {
                inFace = line.equals("## The public face");
            } else if (inFace && line.startsWith("```")) {
                inBlock = line.equals("```java");
            } else if (inBlock) {
                face.add(line.trim());
            }
        }
        return face;
    }

    private static Set<String> constantsTold(List<String> face) {
        Set<String> told = new TreeSet<>();
        for (String line : face) {
            Matcher m = CONSTANT.matcher(line.startsWith("public static final int ") ? line : "");
            while (m.find()) {
                told.add("int " + m.group(1) + " = " + m.group(2));
            }
        }
        return told;
    }

    private static Set<String> constantsThere() throws IllegalAccessException {
        Set<String> there = new TreeSet<>();
        for (Field f : QuadWorlds.class.getDeclaredFields()) {
            if (Modifier.isPublic(f.getModifiers())) {
                boolean isConstant = Modifier.isStatic(f.getModifiers()) && Modifier.isFinal(f.getModifiers());
                there.add(f.getType() + " " + f.getName() + (isConstant ? " = " + f.get(null) : " that may change"));
            }
        }
        return there;
    }

    private static Set<String> constructorsTold(List<String> face) {
        Set<String> told = new TreeSet<>();
        for (String line : face) {
            if (line.startsWith("public QuadWorlds(")) {
                told.add(line.replace("public ", "").replace(";", ""));
            }
        }
        return told;
    }

    private static Set<String> constructorsThere() {
        Set<String> there = new TreeSet<>();
        for (Constructor<?> c : QuadWorlds.class.getDeclaredConstructors()) {
            there.add(c.getName() + "(" + types(c.getParameterTypes()) + ")");
        }
        return there;
    }

    private static Set<String> callsTold(List<String> face) {
        Set<String> told = new TreeSet<>();
        for (String line : face) {
            Matcher m = CALL.matcher(line);
            if (m.matches()) {
                told.add(m.group(1) + " " + m.group(2) + "(" + m.group(3).replaceAll("(\\w+) \\w+", "$1") + ")");
            }
        }
        return told;
    }

    private static Set<String> callsThere() {
        Set<String> there = new TreeSet<>();
        for (Method m : QuadWorlds.class.getDeclaredMethods()) {
            if (Modifier.isPublic(m.getModifiers())) {
                there.add(m.getReturnType() + " " + m.getName() + "(" + types(m.getParameterTypes()) + ")");
            }
        }
        return there;
    }

    private static String types(Class<?>[] all) {
        StringBuilder text = new StringBuilder();
        for (Class<?> type : all) {
            text.append(text.length() == 0 ? "" : ", ").append(type);
        }
        return text.toString();
    }

    private static void sameSets(String what, Set<String> told, Set<String> there) {
        Due.is(what + " told by the document, whether any", 1, told.isEmpty() ? 0 : 1);
        for (String one : told) {
            Due.is("whether there is " + one, 1, there.contains(one) ? 1 : 0);
        }
        for (String one : there) {
            Due.is("whether the document tells " + one, 1, told.contains(one) ? 1 : 0);
        }
    }

    /** Each promise is of a call of the face, 37 in all with that of a new object; each call has one. */
    private static void checkPromises(List<String> document, List<String> face) {
        Set<String> names = new TreeSet<>();
        int promises = 0;
        for (String line : document) {
            Matcher m = HEADING.matcher(line);
            if (m.lookingAt()) {
                promises++;
                Due.is("the number of " + line, promises, Integer.parseInt(m.group(1)));
                names.add(m.group(2));
            }
        }
        Due.is("promises", 37, promises);
        for (String line : face) {
            Matcher m = CALL.matcher(line);
            if (m.matches()) {
                Due.is("whether a promise is of " + m.group(2), 1, names.contains(m.group(2)) ? 1 : 0);
            }
        }
    }
}
