import java.lang.annotation.Retention;
import java.lang.annotation.RetentionPolicy;
import java.lang.reflect.Method;
import java.nio.ByteBuffer;
import java.nio.charset.StandardCharsets;
import java.util.Arrays;
import java.util.Comparator;
import java.util.NoSuchElementException;
import java.util.function.Function;

/** What the tests with answers worked out by hand have in common. */
abstract class Checks {
    static final Class<?> BOUNDS = IndexOutOfBoundsException.class;
    static final Class<?> ARGUMENT = IllegalArgumentException.class;
    static final Class<?> STATE = IllegalStateException.class;
    static final Class<?> ELEMENT = NoSuchElementException.class;

    /** What a wrong answer is told under. */
    static String subject = "";
    private static int passed = 0;
    private static int failed = 0;

    interface Call {
        Object answer();
    }

    /** A call that can be tried on several objects. */
    interface Ask extends Function<OrphanTree, Object> {
    }

    /** A test of one sentence of the document, which stands in it word for word. */
    @Retention(RetentionPolicy.RUNTIME)
    @interface Says {
        String value();
    }

    /** Runs every test of a sentence that a class has. */
    static void checkSentences(Class<?> tests) throws ReflectiveOperationException {
        Method[] methods = tests.getDeclaredMethods();
        Arrays.sort(methods, Comparator.comparing(Method::getName));
        int sentences = 0;
        for (Method test : methods) {
            Says says = test.getAnnotation(Says.class);
            if (says != null) {
                subject = test.getName() + " (" + says.value() + ")";
                int before = passed + failed;
                test.invoke(null);
                is(passed + failed > before, true);
                sentences++;
            }
        }
        tell(sentences + " sentences in " + tests.getName());
    }

    static void tell(String tests) {
        System.out.println(tests + ": " + passed + " answers are as due, " + failed + " are not");
        if (failed != 0) {
            System.exit(1);
        }
    }

    static void is(Object got, Object due) {
        if (got.equals(due)) {
            passed++;
            return;
        }
        failed++;
        String lines = Arrays.stream(new Throwable().getStackTrace()).filter(e -> e.getClassName().endsWith("Test"))
            .map(e -> "" + e.getLineNumber()).reduce("", (a, b) -> a + " " + b);
        System.out.println(subject + ", lines" + lines + ": " + got + ", due is " + due);
    }

    static void fails(Class<?> due, Call call) {
        is(answer(call), due);
    }

    /** The answer, or the class of what the call throws. */
    static Object answer(Call call) {
        try {
            return call.answer();
        } catch (RuntimeException e) {
            return e.getClass();
        }
    }

    /** Puts a text into the buffer, whatever stands there. */
    static void write(OrphanTree x, String text) {
        x.truncateInput(0);
        byte[] bytes = text.getBytes(StandardCharsets.ISO_8859_1);
        ByteBuffer words = ByteBuffer.wrap(Arrays.copyOf(bytes, (bytes.length + 19) / 20 * 20));
        while (words.hasRemaining()) {
            x.appendInput(words.getInt(), words.getInt(), words.getInt(), words.getInt(), words.getInt());
        }
        x.truncateInput(bytes.length);
    }

    static int load(OrphanTree x, String text) {
        write(x, text);
        return x.loadTree();
    }

    static OrphanTree tree(String text) {
        OrphanTree x = new OrphanTree();
        is(load(x, text) > 0, true);
        return x;
    }

    static void refused(String text, int code, int offset) {
        OrphanTree x = new OrphanTree();
        is(load(x, text), -1);
        is(x.errorCode(), code);
        is(x.errorOffset(), offset);
    }

    static String printed(OrphanTree x, int process, int what) {
        int length = x.print(process, what);
        is(x.outputByte(length), -1);
        is(x.outputByte(-1), -1);
        String text = output(x);
        is(text.length(), length);
        return text;
    }

    static String output(OrphanTree x) {
        StringBuilder text = new StringBuilder();
        for (int sign = x.outputByte(0); sign != -1; sign = x.outputByte(text.length())) {
            text.append((char) sign);
        }
        return text.toString();
    }

    static String shape(OrphanTree x) {
        return printed(x, 0, 2);
    }

    static void supervisors(OrphanTree x, int... due) {
        int[] got = new int[due.length];
        for (int i = 0; i < due.length; i++) {
            got[i] = x.process(i, 0);
        }
        is(Arrays.toString(got), Arrays.toString(due));
    }

    static void counts(OrphanTree x, int... due) {
        int[] got = new int[due.length];
        for (int what = 0; what < due.length; what++) {
            got[what] = x.count(what);
        }
        is(Arrays.toString(got), Arrays.toString(due));
    }

    static void properties(OrphanTree x, int process, int... due) {
        int[] got = new int[due.length];
        for (int what = 0; what < due.length; what++) {
            got[what] = x.process(process, what);
        }
        is(Arrays.toString(got), Arrays.toString(due));
    }

    /** All that can be asked without a change, but for the forecasts, which are worked out from this. */
    static String asked(OrphanTree x) {
        StringBuilder all = new StringBuilder();
        for (int what = 0; what <= 10; what++) {
            all.append(x.count(what)).append(' ');
        }
        int come = x.count(0);
        for (int p = 0; p < come; p++) {
            all.append("\n").append(p).append(':');
            for (int what = 0; what <= 14; what++) {
                all.append(' ').append(x.process(p, what));
            }
        }
        for (int duty = 0; duty < 8; duty++) {
            all.append(duty == 0 ? "\nduties " : " ").append(x.holder(duty));
        }
        int exits = x.count(4);
        for (int i = 0; i < exits; i++) {
            all.append(i == 0 ? "\nexits " : " ").append(x.exited(i));
        }
        for (int i = 0; i < 4; i++) {
            all.append(i == 0 ? "\nrules " : " ").append(x.rule(i));
        }
        return all.toString();
    }

    /** Lets processes come, and exit, under the root until so many have come. */
    static void fillUp(OrphanTree x, int number) {
        while (x.count(0) < number) {
            int p = x.spawn(0, 0, 0, 0);
            x.exit(p, 0);
        }
    }

    /** So many processes, the supervisors filled one behind the other. */
    static String processes(int number) {
        StringBuilder text = new StringBuilder();
        for (int i = 0; i < number; i++) {
            text.append("process ").append(i < 9 ? 0 : i < 18 ? 1 : 3).append(" 9 0 0;");
        }
        return text.toString();
    }
}
