import java.io.IOException;
import java.lang.reflect.Executable;
import java.lang.reflect.Field;
import java.lang.reflect.Method;
import java.lang.reflect.Modifier;
import java.nio.file.Files;
import java.nio.file.Path;
import java.util.ArrayList;
import java.util.Arrays;
import java.util.List;
import java.util.Set;
import java.util.TreeSet;
import java.util.regex.Matcher;
import java.util.regex.Pattern;
import java.util.stream.Collectors;
import java.util.stream.Stream;

/**
 * What can be counted of the rules in LANGUAGE.md; a failure names the rule. FaceTest has the face itself. It lets pass
 * what the class uses, which is less than the rules allow (no catch, no list): widen it when the class needs more.
 */
public final class LanguageTest extends Checks {
    private static final Path SOURCE = Path.of("src/main/java/OrphanTree.java");
    private static final Pattern TEXTS = Pattern.compile("\"(?:\\\\.|[^\"\\\\])*\"");
    private static final Pattern SIGNS = Pattern.compile("'(?:\\\\.|[^'\\\\])*'");
    private static final Set<String> EXCEPTIONS = Set.of("IllegalStateException", "IllegalArgumentException",
        "IndexOutOfBoundsException", "ArithmeticException", "UnsupportedOperationException", "NoSuchElementException",
        "RuntimeException");
    private static final Set<String> NUMBERS = Set.of("int", "long", "short", "byte", "char", "boolean", "double", "float");
    private static final Set<String> LIBRARY = Set.of("String", "System", "Integer");

    private LanguageTest() {
    }

    public static void main(String[] args) throws IOException {
        String source = Files.readString(SOURCE);
        // The comments first: an apostrophe in one of them is no sign.
        String code = source.replaceAll("(?s)/\\*.*?\\*/", "").replaceAll("//[^\n]*", "");
        List<Class<?>> classes = new ArrayList<>(List.of(OrphanTree.class));
        classes.addAll(Arrays.asList(OrphanTree.class.getDeclaredClasses()));
        checkClasses(classes);
        checkWords(code);
        checkNames(code, classes);
        checkThrows(code);
        checkMethods(source);
        tell("LANGUAGE.md");
    }

    private static void checkClasses(List<Class<?>> classes) {
        rule(1, "public and final", "OrphanTree");
        is(Modifier.isPublic(OrphanTree.class.getModifiers()) && Modifier.isFinal(OrphanTree.class.getModifiers()), true);
        rule(11, "some twelve classes", "OrphanTree");
        is(classes.size() <= 12, true);
        for (Class<?> one : classes) {
            checkClass(one, classes);
        }
    }

    private static void checkClass(Class<?> one, List<Class<?>> classes) {
        rule(2, "static, and not public or protected", one.getName());
        int seen = Modifier.PUBLIC | Modifier.PROTECTED;
        is(one == OrphanTree.class || Modifier.isStatic(one.getModifiers()) && (one.getModifiers() & seen) == 0, true);
        rule(2, "no class within these", one.getName());
        is(one == OrphanTree.class || one.getDeclaredClasses().length == 0, true);
        int fields = 0;
        for (Field field : one.getDeclaredFields()) {
            checkField(field, classes);
            fields += Modifier.isStatic(field.getModifiers()) ? 0 : 1;
        }
        rule(11, "some twenty fields", one.getName());
        is(fields <= 20, true);
        Executable[] bodies = Stream.concat(Arrays.stream(one.getDeclaredMethods()),
            Arrays.stream(one.getDeclaredConstructors())).toArray(Executable[]::new);
        for (Executable body : bodies) {
            rule(11, "at most seven parameters", body.toString());
            is(body.getParameterCount() <= 7, true);
            rule(6, "no equals, hashCode or toString", body.toString());
            is(Set.of("equals", "hashCode", "toString").contains(body.getName()), false);
        }
        rule(1, "no private method bears the name of a public one", one.getName());
        Set<String> face = Arrays.stream(OrphanTree.class.getDeclaredMethods())
            .filter(m -> Modifier.isPublic(m.getModifiers())).map(Method::getName).collect(Collectors.toSet());
        is(Arrays.stream(one.getDeclaredMethods())
            .anyMatch(m -> Modifier.isPrivate(m.getModifiers()) && face.contains(m.getName())), false);
    }

    private static void checkField(Field field, List<Class<?>> classes) {
        Class<?> type = field.getType();
        Class<?> part = type.isArray() ? type.getComponentType() : type;
        rule(3, "numbers, own classes, texts, and arrays of the first two", field.toString());
        is(part.isPrimitive() || classes.contains(part) || type == String.class, true);
        if (Modifier.isStatic(field.getModifiers())) {
            rule(5, "static fields are final constants", field.toString());
            is(Modifier.isFinal(field.getModifiers()), true);
            is(Set.of("int", "long", "boolean", "char").contains(type.getName()) || type == String.class, true);
        }
    }

    private static void checkWords(String code) {
        String plain = SIGNS.matcher(TEXTS.matcher(code).replaceAll("\"\"")).replaceAll("' '");
        Set<String> words = new TreeSet<>(Arrays.asList(plain.split("\\W+")));
        for (String word : List.of("package", "finally", "synchronized", "assert", "catch", "record", "native",
                "volatile", "strictfp", "transient", "protected", "var", "yield", "equals", "hashCode", "toString")) {
            rule(6, "no such word", word);
            is(words.contains(word), false);
        }
        rule(2, "no lambda, no method reference", "-> or ::");
        is(plain.contains("->") || plain.contains("::"), false);
        rule(5, "no static initialiser", "static {");
        is(Pattern.compile("\\bstatic\\s*\\{").matcher(plain).find(), false);
        rule(10, "texts are not joined by +", "\" +");
        is(Pattern.compile("\"\\s*\\+|\\+\\s*\"").matcher(plain).find(), false);
        rule(4, "the signs of constants are 1 to 127", "the source");
        is(code.chars().allMatch(sign -> sign == '\n' || sign >= ' ' && sign < 127), true);
        rule(9, "no loop without a condition", "while (true) or for (;;)");
        is(Pattern.compile("while\\s*\\(\\s*true|for\\s*\\([^;)]*;\\s*;").matcher(plain).find(), false);
    }

    /** A name that begins with a capital and goes on with a small letter is that of a class. */
    private static void checkNames(String code, List<Class<?>> classes) {
        Set<String> fine = new TreeSet<>(EXCEPTIONS);
        fine.addAll(LIBRARY);
        classes.forEach(one -> fine.add(one.getSimpleName()));
        Matcher name = Pattern.compile("\\b[A-Z]\\w*[a-z]\\w*").matcher(TEXTS.matcher(code).replaceAll("\"\""));
        while (name.find()) {
            rule(4, "no other library", name.group());
            is(fine.contains(name.group()), true);
        }
        Matcher used = Pattern.compile("\\b(?:System|Integer|String)\\.(\\w+)").matcher(code);
        while (used.find()) {
            rule(4, "only what stands there", used.group());
            is(Set.of("arraycopy", "bitCount").contains(used.group(1)), true);
        }
        Matcher imported = Pattern.compile("\\bimport ([^;]*);").matcher(code);
        while (imported.find()) {
            rule(4, "no other library", imported.group());
            is(imported.group(1), "java.util.NoSuchElementException");
        }
    }

    private static void checkThrows(String code) {
        Matcher thrown = Pattern.compile("\\bthrow\\b([^;]*);").matcher(code);
        Pattern form = Pattern.compile(" new (\\w+)\\((?:\"[^\"]*\")?\\)");
        int count = 0;
        for (; thrown.find(); count++) {
            Matcher made = form.matcher(thrown.group(1));
            rule(6, "throw new E() or throw new E(\"a written text\")", thrown.group());
            is(made.matches() && EXCEPTIONS.contains(made.group(1)), true);
        }
        rule(6, "throws by itself", "OrphanTree");
        is(count > 0, true);
    }

    /** A body ends at the brace that stands below the first sign of its head. */
    private static void checkMethods(String source) {
        String[] lines = source.split("\n");
        Pattern head = Pattern.compile("( {4}| {8})(?:(?:public|private|static) )*[\\w\\[\\]]+(?: \\w+)?\\(.*");
        Set<String> kept = Set.of("return", "if", "for", "while", "switch", "throw", "else", "case");
        int bodies = 0;
        for (int i = 0; i < lines.length; i++) {
            Matcher found = head.matcher(lines[i]);
            if (!found.matches() || lines[i].endsWith(";") || kept.contains(lines[i].trim().split("\\W")[0])) {
                continue;
            }
            int end = i;
            while (end < lines.length && !lines[end].equals(found.group(1) + "}")) {
                end++;
            }
            rule(11, "some sixty lines", lines[i].trim());
            is(end < lines.length && end - i < 60, true);
            bodies++;
        }
        rule(11, "the bodies are found", "OrphanTree");
        is(bodies >= 150, true);
    }

    private static void rule(int number, String says, String where) {
        subject = "rule " + number + " (" + says + "): " + where;
    }
}
