import java.io.IOException;
import java.lang.reflect.Constructor;
import java.lang.reflect.Field;
import java.lang.reflect.Method;
import java.lang.reflect.Modifier;
import java.nio.file.Files;
import java.nio.file.Path;
import java.util.ArrayList;
import java.util.List;
import java.util.Set;
import java.util.TreeSet;

/** "The public face": what DOC.md shows of it, no less and no more, against the class and its text. */
public final class FaceTest {
    private static final int PROMISES = 29;

    private FaceTest() {
    }

    public static void main(String[] args) throws Exception {
        String document = Files.readString(Path.of("../shared/DOC.md"));
        List<String> face = faceOf(document);
        allThatIsPublic(face);
        asItIsWritten(face);
        promisesOfIt(document, face);
        Desk.end();
    }

    /** The lines between the class's own and its closing bracket. */
    private static List<String> faceOf(String document) {
        String block = document.substring(document.indexOf("```java"));
        List<String> lines = new ArrayList<>();
        for (String line : block.substring(0, block.indexOf("\n```")).split("\n")) {
            if (line.startsWith("    ")) {
                lines.add(line.trim());
            }
        }
        Desk.due("the class is public and final", true, block.contains("public final class LetterHeaps {"));
        Desk.due("a constant, a constructor and a method for each other promise", PROMISES + 1, lines.size());
        return lines;
    }

    /** A member as the document writes it, but for the names of what it takes. */
    private static String shape(String line) {
        return line.replaceAll("(int|boolean) [a-z]+(?=[,)])", "$1");
    }

    private static void allThatIsPublic(List<String> face) throws IllegalAccessException {
        Desk.sentence("The public face: these constants, constructors and methods alone");
        Class<LetterHeaps> c = LetterHeaps.class;
        Set<String> due = new TreeSet<>();
        for (String line : face) {
            due.add(shape(line));
        }
        Set<String> open = new TreeSet<>();
        for (Method m : c.getDeclaredMethods()) {
            if (!Modifier.isPrivate(m.getModifiers())) {
                open.add(bits(m.getModifiers()) + m.getReturnType() + " " + m.getName() + takes(m.getParameterTypes()));
                Desk.due(m.getName() + " declares no exception", 0, m.getExceptionTypes().length);
            }
        }
        for (Constructor<?> one : c.getDeclaredConstructors()) {
            open.add(bits(one.getModifiers()) + one.getName() + takes(one.getParameterTypes()));
        }
        for (Field f : c.getDeclaredFields()) {
            if (!Modifier.isPrivate(f.getModifiers())) {
                Object value = Modifier.isStatic(f.getModifiers()) ? f.get(null) : "of each object";
                open.add(bits(f.getModifiers()) + f.getType() + " " + f.getName() + " = " + value + ";");
            }
        }
        Desk.due("the members", due.toString(), open.toString());
        Desk.due("no class above it but Object", Object.class.getName(), c.getSuperclass().getName());
        Desk.due("no package", "", c.getPackageName());
        Desk.due("public and final", "public final ", bits(c.getModifiers()));
    }

    private static String bits(int modifiers) {
        String s = Modifier.toString(modifiers);
        return s.isEmpty() ? s : s + " ";
    }

    private static String takes(Class<?>[] types) {
        List<String> names = new ArrayList<>();
        for (Class<?> type : types) {
            names.add(type.getSimpleName());
        }
        return "(" + String.join(", ", names) + ");";
    }

    private static void asItIsWritten(List<String> face) throws IOException {
        Desk.sentence("The public face: with these names");
        String program = Files.readString(Path.of("src/main/java/LetterHeaps.java"));
        for (String line : face) {
            String written = line.contains("(") ? line.replace(";", " {") : line;
            Desk.due(line, true, program.contains("\n    " + written + "\n"));
        }
    }

    private static void promisesOfIt(String document, List<String> face) {
        Desk.sentence("each promise is of one member of the face");
        for (String line : face) {
            String member = line.replace("public ", "").replace(";", "");
            Desk.due(line, true, document.contains("\n`" + member + "`: ") || document.contains("`NONE = -1`") && line.contains("NONE = -1"));
        }
        for (int promise = 1; promise <= PROMISES; promise++) {
            Desk.due("promise " + promise, true, document.contains("\n## Promise " + promise + ": "));
        }
        Desk.due("and no more", false, document.contains("## Promise " + (PROMISES + 1)));
    }
}
