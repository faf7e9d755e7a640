import java.io.IOException;
import java.lang.reflect.Constructor;
import java.lang.reflect.Field;
import java.lang.reflect.Member;
import java.lang.reflect.Method;
import java.lang.reflect.Modifier;
import java.nio.file.Files;
import java.nio.file.Path;
import java.util.ArrayList;
import java.util.List;
import java.util.Set;
import java.util.TreeSet;

/** The class has the face that the document's code block tells, and no other. */
public final class FaceTest {
    private static final Path DOCUMENT = Path.of("../shared/DOC.md");
    private static final Path SOURCE = Path.of("src/main/java/TalkBridge.java");

    private FaceTest() {
    }

    public static void main(String[] args) throws IOException {
        List<String> face = faceOf(Files.readAllLines(DOCUMENT));
        Due.due("lines of the face", face.size(), 53);
        Set<String> told = new TreeSet<>();
        String source = Files.readString(SOURCE);
        for (String line : face) {
            Due.due("the class has: " + line, source.contains(asWritten(line)), true);
            told.add(withoutNames(line));
        }
        Due.due("face of the class: " + seen() + ", told is " + told, seen().equals(told), true);
        Due.due("NONE", TalkBridge.NONE, -1);
        Due.finish("FaceTest");
    }

    /** The lines of the first block of code, without the last brace. */
    private static List<String> faceOf(List<String> document) {
        List<String> face = new ArrayList<>();
        int at = document.indexOf("```java") + 1;
        for (int i = at; i < document.size() && !document.get(i).equals("}"); i++) {
            face.add(document.get(i).trim());
        }
        return face;
    }

    private static String asWritten(String line) {
        return line.endsWith(");") ? line.replace(";", " {") : line;
    }

    private static String withoutNames(String line) {
        return line.replaceAll("(int|boolean) \\w+([,)])", "$1$2").replaceAll(" = .*;", ";").replaceAll("[;{]", "").trim();
    }

    /** All that is not private, but for the classes inside, told as the document tells it. */
    private static Set<String> seen() {
        Class<?> type = TalkBridge.class;
        Set<String> seen = new TreeSet<>();
        seen.add(Modifier.toString(type.getModifiers()) + " class " + type.getName());
        for (Field field : type.getDeclaredFields()) {
            add(seen, field, field.getType() + " " + field.getName());
        }
        for (Constructor<?> constructor : type.getDeclaredConstructors()) {
            add(seen, constructor, constructor.getName() + listed(constructor.getParameterTypes()));
        }
        for (Method method : type.getDeclaredMethods()) {
            add(seen, method, method.getReturnType() + " " + method.getName() + listed(method.getParameterTypes()));
        }
        return seen;
    }

    private static void add(Set<String> seen, Member member, String told) {
        if (!Modifier.isPrivate(member.getModifiers()) && !member.isSynthetic()) {
            seen.add(Modifier.toString(member.getModifiers()) + " " + told);
        }
    }

    private static String listed(Class<?>[] types) {
        List<String> names = new ArrayList<>();
        for (Class<?> type : types) {
            names.add(type.getName());
        }
        return "(" + String.join(", ", names) + ")";
    }
}
