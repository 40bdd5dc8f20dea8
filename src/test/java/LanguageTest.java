import java.io.IOException;
import java.lang.reflect.Array;
import java.lang.reflect.Field;
import java.lang.reflect.Method;
import java.lang.reflect.Modifier;
import java.nio.file.Files;
import java.nio.file.Path;
import java.util.ArrayList;
import java.util.Collections;
import java.util.IdentityHashMap;
import java.util.List;
import java.util.Set;
import java.util.TreeSet;
import java.util.regex.Matcher;
import java.util.regex.Pattern;

/** The rules of LANGUAGE.md that can be seen in the program's text or in its compiled classes. */
public final class LanguageTest {
    private static final Set<String> FACE = Set.of(
        "int feed(int,int,int,int,int)", "int word(int,int,int)", "boolean bar(int,boolean)", "boolean know(int,int)",
        "boolean speak(int)", "int law(int)", "int step(int,int,int)", "int least(int,int,int)", "long howMany(int,int)",
        "long without(int,int)", "int heap(int)", "int heaps()", "int far(int)", "int between(int)", "int newWord(int)",
        "long walks(int,int,int)", "int row(int,int)", "int game(int,int)", "int farBy(int,int)", "int near(int,int)",
        "int clear(int,int,int)", "long rubbed(int)", "int square(int,int)", "boolean seed(int)", "int draw(int,int,int)",
        "int off()", "int check(int,int)", "int count(int)");
    private static final Pattern METHOD = Pattern.compile("^ {4,8}(?! )(?!return|else|case|new)[\\w\\[\\] ]+ (\\w+)\\(([^)]*)\\) \\{$");

    private static String source;

    private LanguageTest() {
    }

    public static void main(String[] args) throws IOException, IllegalAccessException {
        Path path = Path.of("src/main/java/LetterHeaps.java");
        source = Files.readString(path);
        face();
        classes();
        words();
        methods();
        madeOnce();
        room();
        Desk.end();
    }

    private static String shape(Method method) {
        List<String> types = new ArrayList<>();
        for (Class<?> type : method.getParameterTypes()) {
            types.add(type.getSimpleName());
        }
        return method.getReturnType().getSimpleName() + " " + method.getName() + "(" + String.join(",", types) + ")";
    }

    private static void face() {
        Set<String> open = new TreeSet<>();
        for (Method method : LetterHeaps.class.getDeclaredMethods()) {
            if (!Modifier.isPrivate(method.getModifiers())) {
                open.add(shape(method));
            }
        }
        Desk.due("rule 1: the face's methods", new TreeSet<>(FACE).toString(), open.toString());
        for (Field field : LetterHeaps.class.getDeclaredFields()) {
            boolean isOpen = !Modifier.isPrivate(field.getModifiers());
            Desk.due("rule 1: field " + field.getName(), isOpen, field.getName().equals("NONE"));
            Desk.due("rule 5: " + field, true, !Modifier.isStatic(field.getModifiers()) || Modifier.isFinal(field.getModifiers()));
        }
        Desk.due("rule 1: constructors", 1, LetterHeaps.class.getDeclaredConstructors().length);
        Desk.due("rule 1: public and final", Modifier.PUBLIC | Modifier.FINAL, LetterHeaps.class.getModifiers());
    }

    private static void classes() {
        Set<String> names = new TreeSet<>();
        for (String shape : FACE) {
            names.add(shape.replaceAll("^\\w+ |\\(.*", ""));
        }
        Class<?>[] inside = LetterHeaps.class.getDeclaredClasses();
        Desk.due("rule 11: at most twelve classes", true, inside.length < 12);
        for (Class<?> one : inside) {
            int bits = one.getModifiers();
            Desk.due("rule 1: " + one, true, Modifier.isStatic(bits) && !Modifier.isPublic(bits) && !Modifier.isProtected(bits));
            for (Method method : one.getDeclaredMethods()) {
                Desk.due("rule 1: a name of the face: " + method, false, names.contains(method.getName()));
            }
            int kept = 0;
            for (Field field : one.getDeclaredFields()) {
                kept += Modifier.isStatic(field.getModifiers()) ? 0 : 1;
                Desk.due("rule 5: " + field, true, !Modifier.isStatic(field.getModifiers()) || Modifier.isFinal(field.getModifiers()));
            }
            Desk.due("rule 11: at most twenty fields in " + one, true, kept <= 20);
            Desk.due("rule 2: no class inside " + one, 0, one.getDeclaredClasses().length);
        }
    }

    private static void words() {
        String code = source.replaceAll("(?s)/\\*.*?\\*/", "").replaceAll("//[^\n]*", "");
        String[] none = {"throw", "try\\b", "catch", "finally", "synchronized", "assert", "yield", "native", "volatile", "transient",
            "Object", "System\\.(?!arraycopy)", "Math\\.(?!min|max|abs)", "String\\.", "package", "protected", "NaN", "float", "double",
            "numberOf", "Exact", "Collections", "HashMap", "hashCode", "toString"};
        for (String word : none) {
            Desk.due("rules 3, 4, 6: " + word, false, Pattern.compile("\\b" + word).matcher(code).find());
        }
        Desk.due("rule 2: no lambda", false, code.contains("->"));
        Desk.due("rule 2: no method reference", false, code.contains("::"));
        Desk.due("rule 10: no text joined by +", false, Pattern.compile("\"\\s*\\+|\\+\\s*\"").matcher(code).find());
        Matcher imports = Pattern.compile("^import (.*);$", Pattern.MULTILINE).matcher(code);
        while (imports.find()) {
            Desk.due("rule 4: import", "java.util.Arrays", imports.group(1));
        }
        for (int i = 0; i < source.length(); i++) {
            if (source.charAt(i) > 126 || (source.charAt(i) < 32 && source.charAt(i) != '\n')) {
                Desk.due("rule 4: the sign at " + i, 0, source.charAt(i));
            }
        }
    }

    private static void methods() {
        String[] lines = source.split("\n");
        int found = 0;
        for (int i = 0; i < lines.length; i++) {
            Matcher method = METHOD.matcher(lines[i]);
            if (method.matches()) {
                found++;
                int length = 1;
                String end = lines[i].replaceAll("\\S.*", "") + "}";
                while (!lines[i + length].equals(end)) {
                    length++;
                }
                Desk.due("rule 11: short: " + method.group(1) + " has " + length, true, length <= 45);
                Desk.due("rule 11: at most seven parameters: " + method.group(1), true, method.group(2).split(",").length <= 7);
            }
        }
        Desk.due("methods were found", true, found > 100);
    }

    /** Rule 12 and the room that all calls share: what is made is made with the object, none of it by a call. */
    private static void madeOnce() {
        boolean inConstructor = false;
        int made = 0;
        for (String line : source.split("\n")) {
            inConstructor = line.equals("    public LetterHeaps() {") || inConstructor && !line.equals("    }");
            if (line.contains("new ") && !line.trim().startsWith("*") && !line.trim().startsWith("/*")) {
                made++;
                boolean isField = line.matches(" {8}final [\\w\\[\\]]+ \\w+ = new [^{]*;");
                Desk.due("rule 12: made with the object: " + line.trim(), true, isField || inConstructor && line.matches(" {8}\\w+ = new [^{]*;"));
            }
            Desk.due("rule 12: a copy: " + line.trim(), false, line.matches(".*\\b(clone|copyOf|copyOfRange|toCharArray|substring|List)\\b.*"));
        }
        Desk.due("some were found", true, made > 40);
    }

    private static void room() throws IllegalAccessException {
        LetterHeaps x = new LetterHeaps();
        Set<Object> seen = Collections.newSetFromMap(new IdentityHashMap<>());
        long elements = elementsOf(x, seen);
        Desk.due("the room: objects and arrays that an object keeps: " + seen.size(), true, seen.size() < 1000);
        Desk.due("the room: their fields and elements: " + elements, true, elements < 200000);
    }

    private static long elementsOf(Object one, Set<Object> seen) throws IllegalAccessException {
        if (one == null || one instanceof String || !seen.add(one)) {
            return 0;
        }
        Class<?> type = one.getClass();
        long elements = 0;
        if (type.isArray()) {
            elements = Array.getLength(one);
            for (int i = 0; !type.getComponentType().isPrimitive() && i < Array.getLength(one); i++) {
                elements += elementsOf(Array.get(one, i), seen);
            }
            return elements;
        }
        for (Field field : type.getDeclaredFields()) {
            if (!Modifier.isStatic(field.getModifiers())) {
                elements++;
                field.setAccessible(true);
                elements += field.getType().isPrimitive() ? 0 : elementsOf(field.get(one), seen);
            }
        }
        return elements;
    }
}
