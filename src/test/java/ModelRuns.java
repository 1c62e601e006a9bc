import java.lang.reflect.InvocationTargetException;
import java.lang.reflect.Method;
import java.lang.reflect.Parameter;
import java.util.ArrayList;
import java.util.Arrays;
import java.util.HashMap;
import java.util.List;
import java.util.Map;
import java.util.Random;

/** Long runs of arbitrary calls (always the same ones), each answer compared with that of Model. */
public final class ModelRuns {
    private static final int RUNS = Integer.getInteger("runs", 400);
    private static final int CALLS = 512;
    private static final Map<String, Method> FACE = new HashMap<>();
    private static final List<String> NAMES = new ArrayList<>();
    private static final String[] OFTEN = {"spawn", "spawn", "exit", "exit", "process", "count", "print", "outputByte",
        "undo", "refuse", "move", "give", "setHeir", "setBudget", "setCapacity", "relieve", "read", "wouldFall"};

    private static final List<String> SELDOM = List.of("loadTree", "kill", "prune", "restoreState", "appendInput");

    private final Random random;
    private final OrphanTree tree = new OrphanTree();
    private final Model model = new Model();
    private final StringBuilder said = new StringBuilder();
    private int calls = 0;
    private int wrong = 0;

    private ModelRuns(long seed) {
        random = new Random(seed);
    }

    public static void main(String[] args) {
        for (Method m : OrphanTree.class.getDeclaredMethods()) {
            if (java.lang.reflect.Modifier.isPublic(m.getModifiers())) {
                FACE.put(m.getName(), m);
                NAMES.add(m.getName());
            }
        }
        NAMES.sort(String::compareTo);
        int failed = 0;
        for (int run = 0; run < RUNS; run++) {
            ModelRuns r = new ModelRuns(run + Integer.getInteger("seed", 0));
            r.run();
            if (r.wrong > 0) {
                failed++;
                System.out.println("model run " + run + ":\n" + r.said);
                if (failed > 2) {
                    break;
                }
            }
        }
        System.out.println(failed == 0 ? "the model agrees in " + RUNS + " runs" : failed + " runs differ from the model");
        if (failed != 0) {
            System.exit(1);
        }
    }

    private void run() {
        if (random.nextInt(8) > 0) {
            load(setup());
        }
        while (calls < CALLS && wrong == 0) {
            int dice = random.nextInt(400);
            if (dice < 4) {
                load(setup());
            } else if (dice == 4) {
                load(spoiled(setup()));
            } else if (dice < 200) {
                same(OFTEN[random.nextInt(OFTEN.length)]);
            } else {
                String name = NAMES.get(random.nextInt(NAMES.size()));
                if (!SELDOM.contains(name) || random.nextInt(4) == 0) {
                    same(name);
                }
            }
        }
    }

    private void same(String name) {
        Parameter[] parameters = FACE.get(name).getParameters();
        int[] arguments = new int[parameters.length];
        for (int i = 0; i < arguments.length; i++) {
            arguments[i] = random.nextInt(12) == 0 ? strange() : fitting(parameters[i].getName());
        }
        same(name, arguments);
        if (name.equals("print") && calls < CALLS - 20) {
            sameOutput();
        }
    }

    /** The last bytes say the most. */
    private void sameOutput() {
        int length = model.output.length();
        for (int i = Math.max(0, length - 15); i <= length; i++) {
            same("outputByte", i);
        }
    }

    private int strange() {
        switch (random.nextInt(4)) {
            case 0: return random.nextInt(14) - 2;
            case 1: return random.nextInt(300) - 20;
            case 2: return random.nextInt();
            default: return random.nextInt((int) model.call("count", 0));
        }
    }

    private int fitting(String parameter) {
        switch (parameter) {
            case "process": case "other": case "supervisor": case "exits": case "heir": {
                List<Integer> running = model.w.runningOnes();
                int come = model.w.all.size();
                boolean any = random.nextInt(6) == 0;
                return any ? random.nextInt(come) : running.get(random.nextInt(running.size()));
            }
            case "group": return random.nextInt(random.nextInt(4) == 0 ? 10 : 4);
            case "code": return random.nextBoolean() ? 0 : 1 + random.nextInt(255);
            case "duty": return random.nextInt(8);
            case "what": return random.nextInt(random.nextBoolean() ? 5 : 15);
            case "index": return random.nextInt(30);
            default: return random.nextInt(10);
        }
    }

    private void same(String name, int... arguments) {
        if (calls == CALLS) {
            return;
        }
        calls++;
        String due;
        try {
            due = "" + model.call(name, arguments);
        } catch (RuntimeException e) {
            due = e.getClass().getName();
        }
        String got = answer(name, arguments);
        said.append("  ").append(name).append(Arrays.toString(arguments)).append(" answered ").append(got).append('\n');
        if (!got.equals(due)) {
            wrong++;
            said.append("  due is ").append(due).append('\n');
        }
    }

    private String answer(String name, int[] arguments) {
        try {
            Object got = FACE.get(name).invoke(tree, Arrays.stream(arguments).boxed().toArray());
            if (got instanceof Boolean) {
                return (Boolean) got ? "1" : "0";
            }
            if (got instanceof Double) {
                return "" + Double.doubleToLongBits((Double) got);
            }
            return "" + (got instanceof Float ? Float.floatToIntBits((Float) got) : got);
        } catch (InvocationTargetException e) {
            return e.getCause().getClass().getName();
        } catch (IllegalAccessException e) {
            throw new AssertionError(e);
        }
    }

    private void load(String text) {
        same("truncateInput", 0);
        byte[] bytes = Arrays.copyOf(text.getBytes(java.nio.charset.StandardCharsets.ISO_8859_1), (text.length() + 19) / 20 * 20);
        java.nio.ByteBuffer words = java.nio.ByteBuffer.wrap(bytes);
        while (words.hasRemaining()) {
            same("appendInput", words.getInt(), words.getInt(), words.getInt(), words.getInt(), words.getInt());
        }
        same("truncateInput", text.length());
        same("loadTree");
        same("errorCode");
        same("errorOffset");
        same("count", 0);
    }

    private String setup() {
        StringBuilder text = new StringBuilder();
        if (random.nextInt(4) > 0) {
            List<String> rules = new ArrayList<>(List.of("near", "group", "room", "kin", "old"));
            java.util.Collections.shuffle(rules, random);
            text.append("order");
            rules.subList(0, random.nextInt(6)).forEach(rule -> text.append(' ').append(rule));
            text.append(';');
        }
        if (random.nextInt(3) == 0) {
            text.append("deep ").append(1 + random.nextInt(random.nextBoolean() ? 5 : 20)).append(';');
        }
        if (random.nextInt(3) == 0) {
            text.append("root ").append(4 + random.nextInt(6)).append(' ').append(random.nextInt(4)).append(';');
        }
        int told = 0;
        List<Integer> places = new ArrayList<>(List.of(0, 0, 0, 0));
        for (int i = random.nextInt(24); i > 0 && !places.isEmpty(); i--) {
            int supervisor = places.remove(places.size() - 1 - random.nextInt((places.size() + 1) / 2));
            int capacity = random.nextInt(5);
            text.append("process ").append(supervisor).append(' ').append(capacity).append(' ')
                .append(random.nextInt(4)).append(' ').append(random.nextInt(3)).append(random.nextBoolean() ? ";\n" : ";");
            told++;
            for (int k = 0; k < capacity; k++) {
                places.add(told);
            }
        }
        for (int i = random.nextInt(16); i > 0 && told > 1 && text.length() < 485; i--) {
            int p = 1 + random.nextInt(told);
            int other = random.nextInt(30) == 0 ? p : (p + 1 + random.nextInt(told)) % (told + 1);
            switch (random.nextInt(4)) {
                case 0: text.append("heir ").append(p).append(' ').append(other).append(';'); break;
                case 1: text.append("duty ").append(random.nextInt(8)).append(' ').append(random.nextInt(told + 1)).append(';'); break;
                case 2: text.append("refuse ").append(p).append(' ').append(random.nextInt(4)).append(';'); break;
                default: text.append("will ").append(p).append(' ').append(random.nextInt(8)).append(' ')
                    .append(other).append(';');
            }
        }
        return text.length() > 500 ? text.substring(0, 500) : text.toString();
    }

    private String spoiled(String text) {
        StringBuilder spoiled = new StringBuilder(text);
        for (int i = random.nextInt(3); i >= 0 && spoiled.length() > 0; i--) {
            int at = random.nextInt(spoiled.length());
            switch (random.nextInt(4)) {
                case 0: spoiled.deleteCharAt(at); break;
                case 1: spoiled.setCharAt(at, (char) random.nextInt(256)); break;
                case 2: spoiled.insert(at, "0123456789 ;x\n".charAt(random.nextInt(14))); break;
                default: spoiled.append(spoiled.substring(at));
            }
        }
        return spoiled.length() > 500 ? spoiled.substring(0, 500) : spoiled.toString();
    }
}
