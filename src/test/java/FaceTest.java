import java.lang.reflect.Constructor;
import java.lang.reflect.Field;
import java.lang.reflect.Member;
import java.lang.reflect.Method;
import java.lang.reflect.Modifier;
import java.nio.charset.StandardCharsets;
import java.nio.file.Files;
import java.nio.file.Path;
import java.util.Arrays;
import java.util.Set;
import java.util.TreeSet;
import java.util.stream.Collectors;

/** 'The public face' of the document, line by line: the class has just these members, of these types, and no other that can be seen from outside. */
public final class FaceTest {
    private FaceTest() { }

    private static Set<String> toldFace() throws Exception {
        String told = System.getenv("SHADOW_DOORS_DOC");
        String document = Files.readString(Path.of(told == null ? "../shared/DOC.md" : told), StandardCharsets.UTF_8);
        String face = document.substring(document.indexOf("## The public face"), document.indexOf("## Terms"));
        Set<String> lines = new TreeSet<>();
        for (String line : face.split("\n")) {
            String plain = line.strip();
            if (plain.startsWith("public")) {
                lines.add(plain.replaceAll("(\\w) \\w+(?=[,)])", "$1"));
            }
        }
        return lines;
    }

    private static String typesOf(Class<?>[] types) {
        return Arrays.stream(types).map(Class::getSimpleName).collect(Collectors.joining(", ", "(", ");"));
    }

    private static boolean isSeen(Member member) {
        return !Modifier.isPrivate(member.getModifiers()) && !member.isSynthetic();
    }

    private static String flagsOf(int modifiers) {
        String flags = Modifier.toString(modifiers);
        return flags.isEmpty() ? "" : flags + " ";
    }

    private static Set<String> realFace() throws IllegalAccessException {
        Class<?> real = ShadowDoors.class;
        Set<String> lines = new TreeSet<>();
        lines.add(flagsOf(real.getModifiers()) + "class " + real.getName() + " {");
        for (Field field : real.getDeclaredFields()) {
            if (isSeen(field)) {
                String value = Modifier.isStatic(field.getModifiers()) && Modifier.isPublic(field.getModifiers()) ? " = " + field.get(null) : "";
                lines.add(flagsOf(field.getModifiers()) + field.getType().getSimpleName() + " " + field.getName() + value + ";");
            }
        }
        for (Constructor<?> made : real.getDeclaredConstructors()) {
            if (isSeen(made)) {
                lines.add(flagsOf(made.getModifiers()) + real.getName() + typesOf(made.getParameterTypes()));
            }
        }
        for (Method method : real.getDeclaredMethods()) {
            if (isSeen(method)) {
                lines.add(flagsOf(method.getModifiers()) + method.getReturnType().getSimpleName() + " " + method.getName() + typesOf(method.getParameterTypes()));
            }
        }
        return lines;
    }

    private static int tell(Set<String> lines, Set<String> but, String what) {
        int many = 0;
        for (String line : lines) {
            if (!but.contains(line)) {
                many++;
                System.out.println(what + ": " + line);
            }
        }
        return many;
    }

    public static void main(String[] args) throws Exception {
        Set<String> due = toldFace();
        Set<String> real = realFace();
        int wrong = tell(due, real, "not in the class") + tell(real, due, "not in the document");
        System.out.println(due.size() + " lines of the face, " + wrong + " not as due");
        if (wrong > 0 || due.size() != 44) {
            System.exit(1);
        }
    }
}
