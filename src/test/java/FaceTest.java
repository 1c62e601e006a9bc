import java.io.IOException;
import java.lang.reflect.Constructor;
import java.lang.reflect.Field;
import java.lang.reflect.Member;
import java.lang.reflect.Method;
import java.lang.reflect.Modifier;
import java.nio.file.Files;
import java.nio.file.Path;
import java.util.HashSet;
import java.util.Set;
import java.util.TreeSet;
import java.util.stream.Stream;

/** The class has the members of the document's face, with their throws clauses, and no other ones that others see. */
public final class FaceTest {
    private FaceTest() {
    }

    public static void main(String[] args) throws IOException {
        Set<String> due = new TreeSet<>();
        String document = Files.readString(Path.of("../shared/DOC.md"));
        String face = document.substring(document.indexOf("```java"), document.indexOf("\n}\n```"));
        for (String line : face.split("\n")) {
            if (line.startsWith("    public ")) {
                due.add(line.trim().replaceAll("\\b([a-z]+) [a-z]\\w*(?=[,)])", "$1"));
            }
        }
        Set<String> got = new TreeSet<>();
        for (Field field : OrphanTree.class.getDeclaredFields()) {
            if (isSeen(field)) {
                got.add(Modifier.toString(field.getModifiers()) + " " + field.getType() + " " + field.getName() + " = " + valueOf(field) + ";");
            }
        }
        for (Constructor<?> constructor : OrphanTree.class.getDeclaredConstructors()) {
            if (isSeen(constructor)) {
                got.add("public OrphanTree" + parameters(constructor.getParameterTypes()) + ";");
            }
        }
        Set<String> hidden = new HashSet<>();
        Set<String> seen = new HashSet<>();
        for (Method method : OrphanTree.class.getDeclaredMethods()) {
            (isSeen(method) ? seen : hidden).add(method.getName());
            if (isSeen(method)) {
                got.add("public " + method.getReturnType() + " " + method.getName() + parameters(method.getParameterTypes())
                    + thrown(method) + ";");
            }
        }
        Set<String> missing = new TreeSet<>(due);
        missing.removeAll(got);
        got.removeAll(due);
        hidden.retainAll(seen);
        missing.forEach(member -> System.out.println("the class lacks " + member));
        got.forEach(member -> System.out.println("the document has no " + member));
        hidden.forEach(name -> System.out.println("a private method bears the name of a public one: " + name));
        boolean right = due.size() > 60 && missing.isEmpty() && got.isEmpty() && hidden.isEmpty();
        System.out.println(right ? "the face is that of the document" : "the face is not that of the document");
        if (!right) {
            System.exit(1);
        }
    }

    private static boolean isSeen(Member member) {
        return !Modifier.isPrivate(member.getModifiers()) && !member.isSynthetic();
    }

    private static String valueOf(Field field) {
        try {
            return Modifier.isStatic(field.getModifiers()) ? "" + field.get(null) : "?";
        } catch (IllegalAccessException e) {
            return "?";
        }
    }

    private static String parameters(Class<?>[] types) {
        return "(" + String.join(", ", names(types)) + ")";
    }

    private static String thrown(Method method) {
        String names = String.join(", ", names(method.getExceptionTypes()));
        return names.isEmpty() ? "" : " throws " + names;
    }

    private static String[] names(Class<?>[] types) {
        return Stream.of(types).map(Class::getSimpleName).toArray(String[]::new);
    }
}
