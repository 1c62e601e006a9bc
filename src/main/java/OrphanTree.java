import java.util.NoSuchElementException;

/** Processes under supervisors, as the document OrphanTree tells it. */
public final class OrphanTree {
    public static final int NO_ERROR = 0;
    public static final int SYNTAX = 1;
    public static final int OUT_OF_RANGE = 2;
    public static final int TWICE = 3;
    public static final int TOO_MANY = 4;

    private static final int MOST_PROCESSES = 40;
    private static final int MOST_TOLD = 24;
    private static final int MOST_INPUT = 500;
    // Above all that print can write: 39 zombies of up to 6 bytes and a comma each.
    private static final int MOST_OUTPUT = 300;
    private static final int MOST_UNDONE = 10;
    private static final int BYTES_OF_A_CALL = 20;
    private static final int DUTIES = 8;
    private static final int GREATEST_DIGIT = 9;
    private static final int GREATEST_CODE = 255;
    private static final int GREATEST_DEEP = 20;
    private static final int NONE = -1;

    private static final int RUNNING = 0;
    private static final int ZOMBIE = 1;
    private static final int GONE = 2;
    private static final int UNBORN = 3;

    private static final int NEAR = 0;
    private static final int GROUP = 1;
    private static final int ROOM = 2;
    private static final int KIN = 3;
    private static final int OLD = 4;
    private static final int RULES = 5;

    // All trees are made once: a call only copies one into another.
    private final Tree tree = new Tree();
    private final Tree copy = new Tree();
    private final Tree saved = new Tree();
    private final History history = new History();
    private final SetupReader reader = new SetupReader();
    private final Output output = new Output();
    private boolean isSaved = false;

    public OrphanTree() {
    }

    public int appendInput(int a, int b, int c, int d, int e) {
        Input input = reader.input;
        if (input.length + BYTES_OF_A_CALL > MOST_INPUT) {
            return -1;
        }
        input.append(a);
        input.append(b);
        input.append(c);
        input.append(d);
        input.append(e);
        return input.length;
    }

    public boolean truncateInput(int length) {
        if (length < 0 || length > reader.input.length) {
            return false;
        }
        reader.input.length = length;
        return true;
    }

    public int loadTree() {
        reader.begin();
        boolean more = true;
        for (int i = 0; i < MOST_INPUT && more; i++) {
            more = reader.takeStatement();
        }
        reader.input.length = 0;
        if (reader.error != NO_ERROR) {
            return -1;
        }
        tree.take(reader.tree);
        history.size = 0;
        isSaved = false;
        output.length = 0;
        return tree.come;
    }

    public int errorCode() {
        return reader.error;
    }

    public int errorOffset() {
        return reader.errorStart;
    }

    public int count(int what) throws IllegalArgumentException {
        switch (what) {
            case 0: return tree.come;
            case 1: return tree.countInState(RUNNING);
            case 2: return tree.countInState(ZOMBIE);
            case 3: return tree.countInState(GONE);
            case 4: return tree.exits;
            case 5: return tree.adoptions;
            case 6: return tree.rootAdoptions;
            case 7: return tree.replacements;
            case 8: return Integer.bitCount(tree.dutiesOf(tree.root));
            case 9: return history.size;
            case 10: return tree.deep;
            default: throw new IllegalArgumentException("no such number");
        }
    }

    public int process(int process, int what) throws IndexOutOfBoundsException, IllegalArgumentException {
        Proc p = named(process);
        switch (what) {
            case 0: return numberOf(p.supervisor);
            case 1: return p.capacity;
            case 2: return p.room();
            case 3: return p.children;
            case 4: return tree.countZombiesOf(p);
            case 5: return p.state;
            case 6: return p.group;
            case 7: return p.budget;
            case 8: return p.heir;
            case 9: return tree.dutiesOf(p);
            case 10: return p.exitCode;
            case 11: return p.refused;
            case 12: return p.adopted;
            case 13: return p.replacement;
            case 14: return p.willMask();
            default: throw new IllegalArgumentException("no such property");
        }
    }

    public int holder(int duty) throws IllegalArgumentException {
        checkRange(duty, DUTIES - 1);
        return tree.holderOf(duty).number;
    }

    public int rule(int index) {
        return index < 0 || index >= RULES ? NONE : tree.rules[index];
    }

    public int depth(int process) throws IndexOutOfBoundsException, IllegalStateException {
        Proc p = named(process);
        checkState(p.state != GONE);
        return p.countAbove();
    }

    public boolean isAbove(int process, int other) throws IndexOutOfBoundsException {
        Proc p = named(process);
        Proc q = named(other);
        return p.state != GONE && q.state != GONE && p.isOver(q);
    }

    public int meet(int process, int other) throws IndexOutOfBoundsException, IllegalStateException {
        Proc p = named(process);
        Proc q = named(other);
        checkState(p.state != GONE && q.state != GONE);
        return tree.lowestOver(p, q).number;
    }

    public int below(int process) throws IndexOutOfBoundsException {
        return tree.countBelow(named(process), RUNNING);
    }

    public int walked(int index) throws NoSuchElementException {
        Proc p = index < 0 || index >= MOST_PROCESSES ? null : tree.root;
        for (int i = 0; i < index && p != null; i++) {
            p = tree.nextOfWalk(p);
        }
        if (p == null) {
            throw new NoSuchElementException("not so many processes");
        }
        return p.number;
    }

    public int atDepth(int depth) {
        int found = 0;
        for (Proc p : tree.procs) {
            if (p.isRunning() && p.countAbove() == depth) {
                found++;
            }
        }
        return found;
    }

    public int height() {
        return tree.greatestDepth();
    }

    public int spawn(int supervisor, int capacity, int group, int budget)
            throws IndexOutOfBoundsException, IllegalArgumentException, IllegalStateException {
        Proc s = named(supervisor);
        checkRange(capacity, GREATEST_DIGIT);
        checkRange(group, GREATEST_DIGIT);
        checkRange(budget, GREATEST_DIGIT);
        checkState(s.room() > 0 && tree.come < MOST_PROCESSES);
        history.push(tree);
        return numberOf(tree.arrive(s, capacity, group, budget));
    }

    public int exit(int process, int code)
            throws IndexOutOfBoundsException, IllegalArgumentException, IllegalStateException {
        Proc p = namedForExit(process, code);
        history.push(tree);
        return tree.letExit(p, code);
    }

    public int kill(int group, int code) throws IllegalArgumentException {
        checkKill(group, code);
        history.push(tree);
        return tree.killGroup(group, code);
    }

    public int read(int process)
            throws IndexOutOfBoundsException, IllegalStateException, NoSuchElementException {
        Proc p = named(process);
        checkState(p.isRunning());
        Proc zombie = tree.zombieBehind(p, NONE);
        if (zombie == null) {
            throw new NoSuchElementException("no testament");
        }
        history.push(tree);
        zombie.state = GONE;
        return 1000 * zombie.number + zombie.exitCode;
    }

    public int refuse(int process, int group)
            throws IndexOutOfBoundsException, IllegalArgumentException, IllegalStateException {
        Proc p = named(process);
        checkRange(group, GREATEST_DIGIT);
        checkState(p.isMortal());
        history.push(tree);
        p.refused |= 1 << group;
        return tree.loseGroup(p, group);
    }

    public boolean accept(int process, int group)
            throws IndexOutOfBoundsException, IllegalArgumentException, IllegalStateException {
        Proc p = named(process);
        checkRange(group, GREATEST_DIGIT);
        checkState(p.isRunning());
        history.push(tree);
        boolean refusedBefore = p.refuses(group);
        p.refused &= ~(1 << group);
        return refusedBefore;
    }

    public int move(int process, int supervisor) throws IndexOutOfBoundsException, IllegalStateException {
        Proc p = named(process);
        Proc s = named(supervisor);
        checkState(p.isMortal() && s.room() > 0 && s != p && !p.isOver(s) && !s.refuses(p.group));
        history.push(tree);
        int former = numberOf(p.supervisor);
        p.putUnder(s);
        return former;
    }

    public int setCapacity(int process, int capacity)
            throws IndexOutOfBoundsException, IllegalArgumentException, IllegalStateException {
        Proc p = named(process);
        checkRange(capacity, GREATEST_DIGIT);
        checkState(p.isRunning());
        history.push(tree);
        int before = p.capacity;
        p.capacity = capacity;
        return before;
    }

    public int setBudget(int process, int budget)
            throws IndexOutOfBoundsException, IllegalArgumentException, IllegalStateException {
        Proc p = named(process);
        checkRange(budget, GREATEST_DIGIT);
        checkState(p.isRunning());
        history.push(tree);
        int before = p.budget;
        p.budget = budget;
        return before;
    }

    public int setHeir(int process, int heir)
            throws IndexOutOfBoundsException, IllegalArgumentException, IllegalStateException {
        Proc p = named(process);
        if (heir != NONE && named(heir) == p) {
            throw new IllegalArgumentException("its own heir");
        }
        checkState(p.isMortal());
        history.push(tree);
        int before = p.heir;
        p.heir = heir;
        return before;
    }

    public int give(int duty, int process)
            throws IllegalArgumentException, IndexOutOfBoundsException, IllegalStateException {
        checkRange(duty, DUTIES - 1);
        Proc p = named(process);
        checkState(p.isRunning());
        history.push(tree);
        int before = tree.holderOf(duty).number;
        tree.giveDuty(duty, p);
        return before;
    }

    public int adopter(int process) throws IndexOutOfBoundsException, IllegalStateException {
        Proc p = named(process);
        checkState(p.isMortal());
        return tree.adopterOf(p).number;
    }

    public int heirNow(int process) throws IndexOutOfBoundsException, IllegalStateException {
        Proc p = named(process);
        checkState(p.isMortal());
        return tree.heirOf(p).number;
    }

    public int wouldFall(int process, int code)
            throws IndexOutOfBoundsException, IllegalArgumentException, IllegalStateException {
        namedForExit(process, code);
        return exitOfCopy(process, code);
    }

    public int wouldStand(int process, int code)
            throws IndexOutOfBoundsException, IllegalArgumentException, IllegalStateException {
        namedForExit(process, code);
        exitOfCopy(process, code);
        return copy.greatestDepth();
    }

    public int wouldHave(int process, int exits, int code)
            throws IndexOutOfBoundsException, IllegalArgumentException, IllegalStateException {
        named(process);
        namedForExit(exits, code);
        exitOfCopy(exits, code);
        Proc twin = copy.at(process);
        return twin == null ? NONE : numberOf(twin.supervisor);
    }

    public int wouldFallBy(int group, int code) throws IllegalArgumentException {
        checkKill(group, code);
        copy.take(tree);
        copy.killGroup(group, code);
        return copy.rootAdoptions - tree.rootAdoptions;
    }

    public int weakest(int code) throws IllegalArgumentException {
        checkRange(code, GREATEST_CODE);
        int weakest = NONE;
        int most = NONE;
        for (Proc p : tree.procs) {
            int orphans = p.isMortal() ? exitOfCopy(p.number, code) : NONE;
            if (orphans > most) {
                weakest = p.number;
                most = orphans;
            }
        }
        return weakest;
    }

    public int roomiest(int group) throws IllegalArgumentException {
        checkRange(group, GREATEST_DIGIT);
        int roomiest = NONE;
        int most = 0;
        for (Proc p : tree.procs) {
            if (p.isMortal() && !p.refuses(group) && p.room() > most) {
                roomiest = p.number;
                most = p.room();
            }
        }
        return roomiest;
    }

    public int allRoom() {
        int sum = 0;
        for (Proc p : tree.procs) {
            sum += p.room();
        }
        return sum;
    }

    public int overfull() {
        int found = 0;
        for (Proc p : tree.procs) {
            if (p.isRunning() && p.children > p.capacity) {
                found++;
            }
        }
        return found;
    }

    public int ofGroup(int group) throws IllegalArgumentException {
        checkRange(group, GREATEST_DIGIT);
        int found = 0;
        for (Proc p : tree.procs) {
            if (p.isRunning() && p.group == group) {
                found++;
            }
        }
        return found;
    }

    public int nextTestament(int process) throws IndexOutOfBoundsException {
        return numberOf(tree.zombieBehind(named(process), NONE));
    }

    public int exited(int index) throws NoSuchElementException {
        Proc found = null;
        for (Proc p : tree.procs) {
            if (p.hasExited() && p.exitOrder == index) {
                found = p;
            }
        }
        if (found == null) {
            throw new NoSuchElementException("no such exit");
        }
        return found.number;
    }

    public double meanDepth() {
        int sum = 0;
        int running = 0;
        for (Proc p : tree.procs) {
            if (p.isRunning()) {
                sum += p.countAbove();
                running++;
            }
        }
        return running == 0 ? 0.0 : (double) sum / (double) running;
    }

    public float rootShare() {
        return tree.adoptions == 0 ? 0.0f : (float) tree.rootAdoptions / (float) tree.adoptions;
    }

    public int prune(int process, int code)
            throws IndexOutOfBoundsException, IllegalArgumentException, IllegalStateException {
        Proc p = named(process);
        checkRange(code, GREATEST_CODE);
        checkState(p.isRunning());
        history.push(tree);
        return tree.pruneBelow(p, code);
    }

    public int exchange(int process, int other) throws IndexOutOfBoundsException, IllegalStateException {
        Proc p = named(process);
        Proc q = named(other);
        checkState(p.isMortal() && q.isMortal() && p != q && !p.isOver(q) && !q.isOver(p));
        history.push(tree);
        boolean level = p.countAbove() == q.countAbove();
        int both = 2 + tree.countBelow(p, RUNNING) + tree.countBelow(q, RUNNING);
        Proc former = p.supervisor;
        p.putUnder(q.supervisor);
        q.putUnder(former);
        return level ? 0 : both;
    }

    public int readAll(int process) throws IndexOutOfBoundsException, IllegalStateException {
        Proc p = named(process);
        checkState(p.isRunning());
        history.push(tree);
        return tree.readZombiesOf(p);
    }

    public int testamentsBelow(int process) throws IndexOutOfBoundsException {
        return tree.countBelow(named(process), ZOMBIE);
    }

    public int roomBelow(int process) throws IndexOutOfBoundsException {
        Proc p = named(process);
        int sum = 0;
        for (Proc q : tree.procs) {
            if (q.isRunning() && p.isOver(q)) {
                sum += q.room();
            }
        }
        return sum;
    }

    public int mostAdopted() {
        int found = NONE;
        int most = 0;
        for (Proc p : tree.procs) {
            if (p.isRunning() && p.adopted > most) {
                found = p.number;
                most = p.adopted;
            }
        }
        return found;
    }

    public int adopters(int process) throws IndexOutOfBoundsException, IllegalStateException {
        Proc p = named(process);
        checkState(p.isMortal());
        int found = 0;
        for (Proc q : tree.procs) {
            if (tree.canAdopt(q, p)) {
                found++;
            }
        }
        return found;
    }

    public int betterCode(int process) throws IndexOutOfBoundsException, IllegalStateException {
        checkState(named(process).isMortal());
        return exitOfCopy(process, 1) < exitOfCopy(process, 0) ? 1 : 0;
    }

    public int wouldRun(int group, int code) throws IllegalArgumentException {
        checkKill(group, code);
        copy.take(tree);
        copy.killGroup(group, code);
        return copy.countInState(RUNNING);
    }

    public double readShare() {
        return tree.exits == 0 ? 0.0 : (double) tree.countInState(GONE) / (double) tree.exits;
    }

    public int apart(int process, int other) throws IndexOutOfBoundsException, IllegalStateException {
        Proc p = named(process);
        Proc q = named(other);
        checkState(p.state != GONE && q.state != GONE);
        return p.countAbove() + q.countAbove() - 2 * tree.lowestOver(p, q).countAbove();
    }

    public int relieve(int process) throws IndexOutOfBoundsException, IllegalStateException {
        Proc p = named(process);
        checkState(p.isMortal());
        history.push(tree);
        return tree.loseSurplus(p);
    }

    public int wouldHold(int duty, int exits, int code)
            throws IndexOutOfBoundsException, IllegalArgumentException, IllegalStateException {
        named(exits);
        checkRange(duty, DUTIES - 1);
        namedForExit(exits, code);
        exitOfCopy(exits, code);
        return copy.holderOf(duty).number;
    }

    public int dutyLife(int duty) throws IllegalArgumentException {
        checkRange(duty, DUTIES - 1);
        copy.take(tree);
        int life = 0;
        while (life < MOST_PROCESSES && copy.holderOf(duty) != copy.root) {
            copy.letExit(copy.holderOf(duty), 0);
            life++;
        }
        return life;
    }

    public int heaviest(int process) throws IndexOutOfBoundsException {
        Proc p = named(process);
        int heaviest = NONE;
        int most = NONE;
        for (Proc child : tree.procs) {
            int weight = child.isRunningChildOf(p) ? tree.countBelow(child, RUNNING) : NONE;
            if (weight > most) {
                heaviest = child.number;
                most = weight;
            }
        }
        return heaviest;
    }

    public int groupsBelow(int process) throws IndexOutOfBoundsException {
        Proc p = named(process);
        int groups = 0;
        for (Proc q : tree.procs) {
            if (q.isRunning() && p.isOver(q)) {
                groups |= 1 << q.group;
            }
        }
        return groups;
    }

    public int strangers(int process) throws IndexOutOfBoundsException {
        Proc p = named(process);
        int found = 0;
        for (Proc q : tree.procs) {
            if (q.isRunningChildOf(p) && q.group != p.group) {
                found++;
            }
        }
        return found;
    }

    public int print(int process, int what)
            throws IndexOutOfBoundsException, IllegalArgumentException, IllegalStateException {
        Proc p = named(process);
        checkRange(what, 4);
        checkState(p.state != GONE);
        output.length = 0;
        switch (what) {
            case 0: output.putPath(p); break;
            case 1: output.putChildren(tree, p); break;
            case 2: putBranch(output, tree, p, 0); break;
            case 3: output.putDuties(tree, p); break;
            default: output.putZombies(tree, p); break;
        }
        if (output.length == 0) {
            output.putSign('-');
        }
        return output.length;
    }

    public int outputByte(int index) {
        return index < 0 || index >= output.length || index >= MOST_OUTPUT ? -1 : output.bytes[index];
    }

    public int undo() {
        return history.pop(tree) ? history.size : -1;
    }

    public int saveState() {
        saved.take(tree);
        isSaved = true;
        return tree.countInState(RUNNING);
    }

    public int restoreState() throws IllegalStateException {
        checkState(isSaved);
        tree.take(saved);
        history.size = 0;
        return tree.countInState(RUNNING);
    }

    private Proc named(int number) throws IndexOutOfBoundsException {
        Proc p = tree.at(number);
        if (p == null) {
            throw new IndexOutOfBoundsException("no such process");
        }
        return p;
    }

    private static void checkRange(int value, int most) throws IllegalArgumentException {
        if (value < 0 || value > most) {
            throw new IllegalArgumentException("out of range");
        }
    }

    private static void checkState(boolean fits) throws IllegalStateException {
        if (!fits) {
            throw new IllegalStateException("the tree does not let it");
        }
    }

    private static int numberOf(Proc p) {
        return p == null ? NONE : p.number;
    }

    private Proc namedForExit(int number, int code)
            throws IndexOutOfBoundsException, IllegalArgumentException, IllegalStateException {
        Proc p = named(number);
        checkRange(code, GREATEST_CODE);
        checkState(p.isMortal());
        return p;
    }

    private static void checkKill(int group, int code) throws IllegalArgumentException {
        checkRange(group, GREATEST_DIGIT);
        checkRange(code, GREATEST_CODE);
    }

    private int exitOfCopy(int process, int code) {
        copy.take(tree);
        Proc twin = copy.at(process);
        return twin == null ? 0 : copy.letExit(twin, code);
    }

    private static void putBranch(Output output, Tree tree, Proc p, int level) {
        output.putNumber(p.number);
        if (p.children == 0 || level >= MOST_PROCESSES) {
            return;
        }
        char sign = '(';
        for (Proc child : tree.procs) {
            if (child.isRunningChildOf(p)) {
                output.putSign(sign);
                putBranch(output, tree, child, level + 1);
                sign = ' ';
            }
        }
        output.putSign(')');
    }

    /** A process; its slot is there from the start and is filled when the process comes. */
    private static final class Proc {
        private final int number;
        private int state = UNBORN;
        private Proc supervisor = null;
        private int children = 0;
        private int capacity = 0;
        private int group = 0;
        private int budget = 0;
        private int heir = NONE;
        private int refused = 0;
        private int exitCode = NONE;
        private int exitOrder = NONE;
        private int adopted = 0;
        private int replacement = NONE;
        private boolean doomed = false;
        // One byte a duty, 0 or 1 + the number of a process: a copy of a tree must stay cheap.
        private long wills = 0;

        Proc(int number) {
            this.number = number;
        }

        void become(int newState, int newCapacity, int newGroup, int newBudget) {
            state = newState;
            supervisor = null;
            children = 0;
            capacity = newCapacity;
            group = newGroup;
            budget = newBudget;
            heir = NONE;
            refused = 0;
            exitCode = NONE;
            exitOrder = NONE;
            adopted = 0;
            replacement = NONE;
            doomed = false;
            wills = 0;
        }

        /** Takes everything but the supervisor, which is a process of the other tree. */
        void take(Proc other) {
            state = other.state;
            children = other.children;
            capacity = other.capacity;
            group = other.group;
            budget = other.budget;
            heir = other.heir;
            refused = other.refused;
            exitCode = other.exitCode;
            exitOrder = other.exitOrder;
            adopted = other.adopted;
            replacement = other.replacement;
            doomed = other.doomed;
            wills = other.wills;
        }

        boolean isRunning() {
            return state == RUNNING;
        }

        /** Only the root has no supervisor, and the root cannot exit. */
        boolean isMortal() {
            return state == RUNNING && supervisor != null;
        }

        boolean hasExited() {
            return state == ZOMBIE || state == GONE;
        }

        boolean isRunningChildOf(Proc other) {
            return state == RUNNING && supervisor == other;
        }

        boolean isZombieOf(Proc other) {
            return state == ZOMBIE && supervisor == other;
        }

        boolean canInherit() {
            return state == RUNNING && !doomed;
        }

        boolean refuses(int other) {
            return (refused >> other & 1) != 0;
        }

        int room() {
            return state == RUNNING && capacity > children ? capacity - children : 0;
        }

        int countAbove() {
            int found = 0;
            for (Proc above = supervisor; above != null; above = above.supervisor) {
                found++;
            }
            return found;
        }

        boolean isOver(Proc other) {
            for (Proc above = other.supervisor; above != null; above = above.supervisor) {
                if (above == this) {
                    return true;
                }
            }
            return false;
        }

        void putUnder(Proc other) {
            if (supervisor != null) {
                supervisor.children--;
            }
            supervisor = other;
            other.children++;
        }

        int willFor(int duty) {
            return (int) (wills >> 8 * duty & 255) - 1;
        }

        void addWill(int duty, int target) {
            wills |= (long) (target + 1) << 8 * duty;
        }

        int willMask() {
            int mask = 0;
            for (int duty = 0; duty < DUTIES; duty++) {
                if (willFor(duty) != NONE) {
                    mask |= 1 << duty;
                }
            }
            return mask;
        }
    }

    /** All processes with their duties, the settings and the counters: what is undone and saved. */
    private static final class Tree {
        private final Proc root = new Proc(0);
        private final Proc[] procs = new Proc[MOST_PROCESSES];
        private final int[] holders = new int[DUTIES];
        private final int[] rules = new int[RULES];
        private int deep = GREATEST_DEEP;
        private int come = 0;
        private int exits = 0;
        private int adoptions = 0;
        private int rootAdoptions = 0;
        private int replacements = 0;

        Tree() {
            for (int i = 0; i < MOST_PROCESSES; i++) {
                procs[i] = i == 0 ? root : new Proc(i);
            }
            reset();
        }

        void reset() {
            for (Proc p : procs) {
                p.become(UNBORN, 0, 0, 0);
            }
            root.become(RUNNING, GREATEST_DIGIT, 0, 0);
            for (int duty = 0; duty < DUTIES; duty++) {
                holders[duty] = 0;
            }
            clearRules();
            rules[0] = NEAR;
            rules[1] = GROUP;
            rules[2] = ROOM;
            deep = GREATEST_DEEP;
            come = 1;
            exits = 0;
            adoptions = 0;
            rootAdoptions = 0;
            replacements = 0;
        }

        boolean hasRule(int rule) {
            for (int other : rules) {
                if (other == rule) {
                    return true;
                }
            }
            return false;
        }

        void clearRules() {
            for (int i = 0; i < RULES; i++) {
                rules[i] = NONE;
            }
        }

        void take(Tree other) {
            come = other.come;
            for (int i = 0; i < MOST_PROCESSES; i++) {
                Proc theirs = other.procs[i];
                procs[i].take(theirs);
                procs[i].supervisor = theirs.supervisor == null ? null : at(theirs.supervisor.number);
            }
            System.arraycopy(other.holders, 0, holders, 0, DUTIES);
            System.arraycopy(other.rules, 0, rules, 0, RULES);
            deep = other.deep;
            exits = other.exits;
            adoptions = other.adoptions;
            rootAdoptions = other.rootAdoptions;
            replacements = other.replacements;
        }

        Proc at(int number) {
            return number < 0 || number >= come || number >= MOST_PROCESSES ? null : procs[number];
        }

        int countInState(int state) {
            int found = 0;
            for (Proc p : procs) {
                if (p.state == state) {
                    found++;
                }
            }
            return found;
        }

        int countBelow(Proc top, int state) {
            int found = 0;
            for (Proc p : procs) {
                if (p.state == state && top.isOver(p)) {
                    found++;
                }
            }
            return found;
        }

        int countZombiesOf(Proc reader) {
            int found = 0;
            for (Proc p : procs) {
                if (p.isZombieOf(reader)) {
                    found++;
                }
            }
            return found;
        }

        int greatestDepth() {
            int greatest = 0;
            for (Proc p : procs) {
                if (p.isRunning() && p.countAbove() > greatest) {
                    greatest = p.countAbove();
                }
            }
            return greatest;
        }

        Proc lowestOver(Proc p, Proc q) {
            for (Proc above = p; above != null; above = above.supervisor) {
                if (above == q || above.isOver(q)) {
                    return above;
                }
            }
            return root;
        }

        /** The first running child with a greater number, null if there is none. */
        Proc childBehind(Proc p, int number) {
            for (Proc child : procs) {
                if (child.number > number && child.isRunningChildOf(p)) {
                    return child;
                }
            }
            return null;
        }

        /** The first zombie child that exited behind an exit, null if there is none. */
        Proc zombieBehind(Proc p, int exitOrder) {
            Proc first = null;
            for (Proc child : procs) {
                if (child.isZombieOf(p) && child.exitOrder > exitOrder
                        && (first == null || child.exitOrder < first.exitOrder)) {
                    first = child;
                }
            }
            return first;
        }

        Proc nextOfWalk(Proc p) {
            Proc next = childBehind(p, NONE);
            for (Proc last = p; next == null && last.supervisor != null; last = last.supervisor) {
                next = childBehind(last.supervisor, last.number);
            }
            return next;
        }

        Proc holderOf(int duty) {
            Proc found = duty < 0 || duty >= DUTIES ? null : at(holders[duty]);
            return found == null ? root : found;
        }

        void giveDuty(int duty, Proc p) {
            if (duty >= 0 && duty < DUTIES) {
                holders[duty] = p.number;
            }
        }

        int dutiesOf(Proc p) {
            int mask = 0;
            for (int duty = 0; duty < DUTIES; duty++) {
                if (holders[duty] == p.number) {
                    mask |= 1 << duty;
                }
            }
            return mask;
        }

        /** Lets a process come; null if there are too many already. */
        Proc arrive(Proc supervisor, int capacity, int group, int budget) {
            if (come < 0 || come >= MOST_PROCESSES) {
                return null;
            }
            Proc p = procs[come];
            come++;
            p.become(RUNNING, capacity, group, budget);
            p.putUnder(supervisor);
            return p;
        }

        /** Takes the steps of an exit and returns how many orphans the root adopts. */
        int letExit(Proc p, int code) {
            Proc s = p.supervisor;
            if (s == null) {
                return 0;
            }
            int before = rootAdoptions;
            p.state = ZOMBIE;
            p.exitCode = code;
            p.exitOrder = exits;
            exits++;
            s.children--;
            Proc replacement = code == 0 ? null : replace(p, s);
            passDuties(p, replacement);
            for (Proc orphan : procs) {
                if (orphan.isRunningChildOf(p)) {
                    boolean taken = replacement != null && replacement.room() > 0;
                    adopt(orphan, taken ? replacement : adopterOf(orphan));
                }
            }
            for (Proc zombie : procs) {
                if (zombie.isZombieOf(p)) {
                    zombie.supervisor = s;
                }
            }
            if (s == root) {
                readZombiesOf(root);
            }
            return rootAdoptions - before;
        }

        private Proc replace(Proc p, Proc s) {
            if (s.doomed || s.budget <= 0) {
                return null;
            }
            Proc replacement = arrive(s, p.capacity, p.group, p.budget);
            if (replacement != null) {
                s.budget--;
                p.replacement = replacement.number;
                replacements++;
            }
            return replacement;
        }

        private void passDuties(Proc p, Proc replacement) {
            for (int duty = 0; duty < DUTIES; duty++) {
                if (holders[duty] == p.number) {
                    Proc next = replacement != null ? replacement : inheritorOf(p, duty);
                    holders[duty] = next.number;
                }
            }
        }

        private Proc inheritorOf(Proc p, int duty) {
            Proc willed = at(p.willFor(duty));
            return willed != null && willed.canInherit() ? willed : heirOf(p);
        }

        /** Who inherits the duties for which there is no will. */
        Proc heirOf(Proc p) {
            Proc heir = at(p.heir);
            if (heir != null && heir.canInherit()) {
                return heir;
            }
            for (Proc child : procs) {
                if (child.isRunningChildOf(p) && child.canInherit()) {
                    return child;
                }
            }
            return p.supervisor == null ? root : p.supervisor;
        }

        private void adopt(Proc orphan, Proc adopter) {
            orphan.putUnder(adopter);
            orphan.adopted++;
            adoptions++;
            if (adopter == root) {
                rootAdoptions++;
            }
        }

        /** Tries the rules one after the other; the root takes whom no rule places. */
        Proc adopterOf(Proc orphan) {
            Proc former = orphan.supervisor;
            if (former == null) {
                return root;
            }
            Proc found = null;
            for (int i = 0; i < RULES && found == null; i++) {
                switch (rules[i]) {
                    case NEAR: found = nearest(orphan, former); break;
                    case GROUP: found = roomiestFor(orphan, former, true); break;
                    case ROOM: found = roomiestFor(orphan, former, false); break;
                    case KIN: found = firstKin(orphan, former); break;
                    case OLD: found = oldest(orphan, former); break;
                    default: break;
                }
            }
            return found == null ? root : found;
        }

        private Proc nearest(Proc orphan, Proc former) {
            for (Proc above = former.supervisor; above != null; above = above.supervisor) {
                if (canAdopt(above, orphan)) {
                    return above;
                }
            }
            return null;
        }

        private Proc roomiestFor(Proc orphan, Proc former, boolean ofItsGroup) {
            Proc roomiest = null;
            for (Proc p : procs) {
                boolean asked = p != former && (!ofItsGroup || p.group == orphan.group);
                boolean better = roomiest == null || p.room() > roomiest.room();
                if (asked && better && canAdopt(p, orphan)) {
                    roomiest = p;
                }
            }
            return roomiest;
        }

        private Proc firstKin(Proc orphan, Proc former) {
            Proc parent = former.supervisor;
            for (Proc p : procs) {
                if (parent != null && p != former && p.isRunningChildOf(parent) && canAdopt(p, orphan)) {
                    return p;
                }
            }
            return null;
        }

        private Proc oldest(Proc orphan, Proc former) {
            for (Proc p : procs) {
                if (p != former && canAdopt(p, orphan)) {
                    return p;
                }
            }
            return null;
        }

        /** The root never can, for every rule leaves it aside; the caller leaves the former supervisor aside. */
        boolean canAdopt(Proc p, Proc orphan) {
            if (!p.isMortal() || p.doomed || p == orphan || p.refuses(orphan.group) || p.room() == 0) {
                return false;
            }
            return p.countAbove() < deep && !orphan.isOver(p);
        }

        int killGroup(int group, int code) {
            for (Proc p : procs) {
                p.doomed = p.isMortal() && p.group == group;
            }
            int killed = 0;
            for (Proc p : procs) {
                if (p.doomed) {
                    letExit(p, code);
                    killed++;
                }
            }
            for (Proc p : procs) {
                p.doomed = false;
            }
            return killed;
        }

        int loseGroup(Proc p, int group) {
            int lost = 0;
            for (Proc child : procs) {
                if (child.isRunningChildOf(p) && child.group == group) {
                    adopt(child, adopterOf(child));
                    lost++;
                }
            }
            return lost;
        }

        int loseSurplus(Proc p) {
            int lost = 0;
            for (int i = MOST_PROCESSES - 1; i >= 0; i--) {
                if (p.children > p.capacity && procs[i].isRunningChildOf(p)) {
                    adopt(procs[i], adopterOf(procs[i]));
                    lost++;
                }
            }
            return lost;
        }

        int readZombiesOf(Proc reader) {
            int sum = 0;
            for (Proc p : procs) {
                if (p.isZombieOf(reader)) {
                    p.state = GONE;
                    sum += p.exitCode;
                }
            }
            return sum;
        }

        int pruneBelow(Proc top, int code) {
            int pruned = 0;
            Proc next = deepestBelow(top);
            while (next != null && pruned < MOST_PROCESSES) {
                letExit(next, code);
                pruned++;
                next = deepestBelow(top);
            }
            return pruned;
        }

        private Proc deepestBelow(Proc top) {
            Proc deepest = null;
            for (Proc p : procs) {
                if (p.isRunning() && top.isOver(p)
                        && (deepest == null || p.countAbove() >= deepest.countAbove())) {
                    deepest = p;
                }
            }
            return deepest;
        }
    }

    /** The trees before the latest changes, in a ring. */
    private static final class History {
        private final Tree[] past = new Tree[MOST_UNDONE];
        private int size = 0;
        private int next = 0;

        History() {
            for (int i = 0; i < MOST_UNDONE; i++) {
                past[i] = new Tree();
            }
        }

        void push(Tree tree) {
            if (next < 0 || next >= MOST_UNDONE) {
                next = 0;
            }
            past[next].take(tree);
            next++;
            if (size < MOST_UNDONE) {
                size++;
            }
        }

        boolean pop(Tree tree) {
            if (size == 0) {
                return false;
            }
            if (next <= 0 || next > MOST_UNDONE) {
                next = MOST_UNDONE;
            }
            next--;
            size--;
            tree.take(past[next]);
            return true;
        }
    }

    /** The input buffer. */
    private static final class Input {
        private final byte[] bytes = new byte[MOST_INPUT];
        private int length = 0;

        void append(int word) {
            for (int shift = 24; shift >= 0; shift -= 8) {
                if (length >= 0 && length < MOST_INPUT) {
                    bytes[length] = (byte) (word >> shift);
                    length++;
                }
            }
        }

        /** The byte at an index; 0, which belongs to no token, where there is none. */
        int at(int index) {
            return index < 0 || index >= length || index >= MOST_INPUT ? 0 : bytes[index];
        }
    }

    /** The output and what is written to it. */
    private static final class Output {
        private final byte[] bytes = new byte[MOST_OUTPUT];
        private int length = 0;

        void putSign(char sign) {
            if (length >= 0 && length < MOST_OUTPUT) {
                bytes[length] = (byte) sign;
                length++;
            }
        }

        void putNumber(int number) {
            if (number >= 100) {
                putSign((char) ('0' + number / 100));
            }
            if (number >= 10) {
                putSign((char) ('0' + number / 10 % 10));
            }
            putSign((char) ('0' + number % 10));
        }

        void putPath(Proc p) {
            for (int steps = p.countAbove(); steps > 0; steps--) {
                Proc above = p;
                for (int i = 0; i < steps && above.supervisor != null; i++) {
                    above = above.supervisor;
                }
                putNumber(above.number);
                putSign('/');
            }
            putNumber(p.number);
        }

        void putChildren(Tree tree, Proc p) {
            for (Proc child : tree.procs) {
                if (child.isRunningChildOf(p)) {
                    putComma();
                    putNumber(child.number);
                }
            }
        }

        void putDuties(Tree tree, Proc p) {
            int duties = tree.dutiesOf(p);
            for (int duty = 0; duty < DUTIES; duty++) {
                if ((duties >> duty & 1) != 0) {
                    putNumber(duty);
                }
            }
        }

        void putZombies(Tree tree, Proc p) {
            Proc zombie = tree.zombieBehind(p, NONE);
            for (int i = 0; i < MOST_PROCESSES && zombie != null; i++) {
                putComma();
                putNumber(zombie.number);
                putSign(':');
                putNumber(zombie.exitCode);
                zombie = tree.zombieBehind(p, zombie.exitOrder);
            }
        }

        private void putComma() {
            if (length > 0) {
                putSign(',');
            }
        }
    }

    /** Reads the setup text token by token, from left to right; an error is always one of the present token. */
    private static final class SetupReader {
        private static final int END = 0;
        private static final int WORD = 1;
        private static final int NUMBER = 2;
        private static final int SEMICOLON = 3;
        private static final int BAD = 4;
        private static final int MOST_DIGITS = 2;

        private final Input input = new Input();
        private final Tree tree = new Tree();
        private int error = NO_ERROR;
        private int errorStart = NONE;
        private int kind = END;
        private int start = 0;
        private int end = 0;
        private int value = 0;
        private boolean orderTold = false;
        private boolean deepTold = false;
        private boolean rootTold = false;

        void begin() {
            tree.reset();
            error = NO_ERROR;
            errorStart = NONE;
            orderTold = false;
            deepTold = false;
            rootTold = false;
            end = 0;
        }

        /**
         * Puts the next statement into the tree and ends at its semicolon; false behind the last one or at an error,
         * which leaves the tree half built.
         */
        boolean takeStatement() {
            advance();
            if (kind == END) {
                return false;
            }
            if (isWord("order")) {
                return takeOrder();
            }
            if (isWord("deep")) {
                return takeDeep();
            }
            if (isWord("root")) {
                return takeRoot();
            }
            if (isWord("process")) {
                return takeProcess();
            }
            if (isWord("heir")) {
                return takeHeir();
            }
            if (isWord("duty")) {
                return takeDuty();
            }
            if (isWord("refuse")) {
                return takeRefusal();
            }
            return isWord("will") ? takeWill() : fail(SYNTAX);
        }

        private boolean takeOrder() {
            if (orderTold) {
                return fail(TWICE);
            }
            orderTold = true;
            tree.clearRules();
            advance();
            for (int i = 0; i < RULES && kind == WORD; i++) {
                int rule = ruleOfWord();
                if (rule == NONE) {
                    return fail(SYNTAX);
                }
                if (tree.hasRule(rule)) {
                    return fail(TWICE);
                }
                tree.rules[i] = rule;
                advance();
            }
            // A sixth word is no rule, or one of the five that stand there.
            return kind == SEMICOLON || fail(ruleOfWord() == NONE ? SYNTAX : TWICE);
        }

        private int ruleOfWord() {
            if (isWord("near")) {
                return NEAR;
            }
            if (isWord("group")) {
                return GROUP;
            }
            if (isWord("room")) {
                return ROOM;
            }
            if (isWord("kin")) {
                return KIN;
            }
            return isWord("old") ? OLD : NONE;
        }

        private boolean takeDeep() {
            if (deepTold) {
                return fail(TWICE);
            }
            deepTold = true;
            if (!takeNumber(1, GREATEST_DEEP)) {
                return false;
            }
            tree.deep = value;
            return takeSemicolon();
        }

        private boolean takeRoot() {
            if (rootTold) {
                return fail(TWICE);
            }
            rootTold = true;
            if (!takeNumber(0, GREATEST_DIGIT)) {
                return false;
            }
            tree.root.capacity = value;
            if (!takeNumber(0, GREATEST_DIGIT)) {
                return false;
            }
            tree.root.budget = value;
            return takeSemicolon();
        }

        private boolean takeProcess() {
            if (tree.come > MOST_TOLD) {
                return fail(TOO_MANY);
            }
            Proc supervisor = takeNamed(0);
            if (supervisor == null) {
                return false;
            }
            if (supervisor.room() == 0) {
                return fail(OUT_OF_RANGE);
            }
            if (!takeNumber(0, GREATEST_DIGIT)) {
                return false;
            }
            int capacity = value;
            if (!takeNumber(0, GREATEST_DIGIT)) {
                return false;
            }
            int group = value;
            if (!takeNumber(0, GREATEST_DIGIT)) {
                return false;
            }
            tree.arrive(supervisor, capacity, group, value);
            return takeSemicolon();
        }

        private boolean takeHeir() {
            Proc p = takeNamed(1);
            if (p == null) {
                return false;
            }
            if (p.heir != NONE) {
                return fail(TWICE);
            }
            Proc heir = takeNamed(0);
            if (heir == null) {
                return false;
            }
            if (heir == p) {
                return fail(OUT_OF_RANGE);
            }
            p.heir = heir.number;
            return takeSemicolon();
        }

        private boolean takeDuty() {
            if (!takeNumber(0, DUTIES - 1)) {
                return false;
            }
            int duty = value;
            Proc holder = takeNamed(0);
            if (holder == null) {
                return false;
            }
            tree.giveDuty(duty, holder);
            return takeSemicolon();
        }

        private boolean takeRefusal() {
            Proc p = takeNamed(1);
            if (p == null || !takeNumber(0, GREATEST_DIGIT)) {
                return false;
            }
            if (p.refuses(value)) {
                return fail(TWICE);
            }
            p.refused |= 1 << value;
            return takeSemicolon();
        }

        private boolean takeWill() {
            Proc p = takeNamed(1);
            if (p == null || !takeNumber(0, DUTIES - 1)) {
                return false;
            }
            int duty = value;
            if (p.willFor(duty) != NONE) {
                return fail(TWICE);
            }
            Proc target = takeNamed(0);
            if (target == null) {
                return false;
            }
            if (target == p) {
                return fail(OUT_OF_RANGE);
            }
            p.addWill(duty, target.number);
            return takeSemicolon();
        }

        /** Takes the number of a process told before; null, with the error noted, if the next token is none. */
        private Proc takeNamed(int least) {
            return takeNumber(least, tree.come - 1) ? tree.at(value) : null;
        }

        private boolean takeNumber(int least, int most) {
            advance();
            if (kind != NUMBER) {
                return fail(SYNTAX);
            }
            return value >= least && value <= most || fail(OUT_OF_RANGE);
        }

        private boolean takeSemicolon() {
            advance();
            return kind == SEMICOLON || fail(SYNTAX);
        }

        private boolean fail(int code) {
            error = code;
            errorStart = start;
            return false;
        }

        /** Goes to the next token; a number that is too long is none. */
        private void advance() {
            start = end;
            while (start < input.length && isBlank(input.at(start))) {
                start++;
            }
            end = start;
            kind = END;
            if (start < input.length) {
                kind = kindOf(input.at(start));
                end++;
            }
            value = input.at(start) - '0';
            while ((kind == WORD || kind == NUMBER) && end < input.length && kindOf(input.at(end)) == kind) {
                value = 10 * value + input.at(end) - '0';
                end++;
            }
            if (kind == NUMBER && end - start > MOST_DIGITS) {
                kind = BAD;
            }
        }

        private static boolean isBlank(int sign) {
            return sign == ' ' || sign == '\n';
        }

        private static int kindOf(int sign) {
            if (sign >= 'a' && sign <= 'z') {
                return WORD;
            }
            if (sign >= '0' && sign <= '9') {
                return NUMBER;
            }
            return sign == ';' ? SEMICOLON : BAD;
        }

        private boolean isWord(String word) {
            boolean same = end - start == word.length();
            for (int i = 0; same && i < word.length(); i++) {
                same = input.at(start + i) == word.charAt(i);
            }
            return same;
        }
    }
}
