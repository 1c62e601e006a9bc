import java.io.IOException;
import java.nio.file.Files;
import java.nio.file.Path;
import java.util.List;
import java.util.regex.Matcher;
import java.util.regex.Pattern;
import java.util.stream.Collectors;

/** Each line of Java in README.md stands here, too, and answers what its comment tells. */
public final class ReadmeTest extends Checks {
    private static final Pattern BLOCK = Pattern.compile("```java\n(.*?)```", Pattern.DOTALL);
    private static final Pattern CHANGES = Pattern.compile("Changes are (.*?)\\.", Pattern.DOTALL);

    private ReadmeTest() {
    }

    public static void main(String[] args) throws IOException {
        String readme = Files.readString(Path.of("README.md"));
        sameLines(readme);
        sameChanges(readme, Files.readString(Path.of("../shared/DOC.md")));
        subject = "README.md";
        tellsTheAnswers();
        tell("README.md");
    }

    private static void sameLines(String readme) throws IOException {
        List<String> here = codeOf(Files.readString(Path.of("src/test/java/ReadmeTest.java")));
        Matcher block = BLOCK.matcher(readme);
        int blocks = 0;
        for (; block.find(); blocks++) {
            for (String line : codeOf(block.group(1))) {
                subject = "a line of README.md in ReadmeTest (" + line + ")";
                is(here.contains(line), true);
            }
        }
        is(blocks > 4, true);
    }

    private static List<String> codeOf(String text) {
        return text.lines().map(line -> line.replaceAll("//.*", "").trim()).filter(line -> !line.isEmpty())
            .collect(Collectors.toList());
    }

    private static void sameChanges(String readme, String document) {
        Matcher listed = CHANGES.matcher(readme);
        subject = "the changes that README.md lists";
        is(listed.find(), true);
        for (String promise : document.split("\n## Promise ")) {
            String name = promise.replaceAll("(?s)^\\d+: (\\w+).*", "$1");
            subject = "README.md lists " + name + " as a change";
            is(listed.group(1).contains("`" + name + "`"), promise.contains("This is a change"));
        }
    }

    private static void tellsTheAnswers() {
        OrphanTree tree = new OrphanTree();
        int a = tree.spawn(0, 2, 1, 0);
        int b = tree.spawn(a, 1, 1, 0);
        int fall = tree.wouldFall(a, 0);
        is(a, 1);
        is(b, 2);
        is(fall, 1);
        tree.exit(a, 0);
        is(tree.process(b, 0), 0);
        int length = tree.print(0, 2);
        is(length, 4);
        is(output(tree), "0(2)");

        put(tree, "order near old; process 0 2 1 0; process 1 1 1 0; heir 1 2; duty 5 1;");
        int come = tree.loadTree();
        is(come, 3);
        is(tree.process(1, 8), 2);
        is(tree.holder(5), 1);

        put(tree, "process 0 2 1 0; process 7 1 1 0;");
        int none = tree.loadTree();
        int code = tree.errorCode();
        int offset = tree.errorOffset();
        is(none, -1);
        is(code, OrphanTree.OUT_OF_RANGE);
        is(offset, 25);
        is(tree.count(0), 3);

        String before = asked(tree);
        tree.exit(1, 0);
        int left = tree.undo();
        is(asked(tree), before);
        int more = tree.undo();
        is(left, 0);
        is(more, -1);

        boolean refused = false;
        try {
            tree.exit(0, 0);
        } catch (IllegalStateException e) {
            refused = true;
        }
        is(refused, true);
        is(asked(tree), before);
        putsWhole();
    }

    /** What is put in has its own length, whatever stood in the buffer. */
    private static void putsWhole() {
        OrphanTree tree = new OrphanTree();
        for (int length = 500; length >= 0; length--) {
            put(tree, " ".repeat(length));
            is(tree.truncateInput(length + 1), false);
            tree = length % 10 == 0 ? new OrphanTree() : tree;
        }
    }

    static void put(OrphanTree tree, String text) {
        tree.truncateInput(0);
        for (int i = 0; i < text.length(); i += 20) {
            tree.appendInput(word(text, i), word(text, i + 4), word(text, i + 8), word(text, i + 12), word(text, i + 16));
        }
        tree.truncateInput(text.length());
    }

    static int word(String text, int start) {
        int word = 0;
        for (int i = start; i < start + 4; i++) {
            word = word << 8 | (i < text.length() ? text.charAt(i) : ' ');
        }
        return word;
    }
}
