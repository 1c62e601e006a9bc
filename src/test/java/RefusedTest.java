import java.util.function.Function;

/** Calls that throw, are refused or only ask: they leave everything as it was; of several exceptions the first one is thrown. */
public final class RefusedTest extends Checks {
    /** Processes of the busy tree: two running ones, one without room, a zombie, one that is gone, and one that has not come. */
    private static final int ROOT = 0;
    private static final int ONE = 1;
    private static final int TWO = 2;
    private static final int FULL = 6;
    private static final int ZOMBIE = 3;
    private static final int GONE = 5;
    private static final int NONE = 7;
    private static final int[] NO_PROCESS = {NONE, -1, 40, Integer.MIN_VALUE, Integer.MAX_VALUE};

    private RefusedTest() {
    }

    public static void main(String[] args) throws ReflectiveOperationException {
        checkSentences(RefusedTest.class);
    }

    /** A tree with all there is: changes, a saved state, an output, an error and bytes in the input buffer. */
    private static OrphanTree busy() {
        OrphanTree x = new OrphanTree();
        load(x, "order near kin room;deep 9;root 9 2;process 0 3 1 0;process 1 2 2 1;process 2 0 3 0;process 1 1 2 0;process 0 1 4 0;"
            + "heir 1 5;duty 3 2;refuse 5 2;will 1 4 4;");
        x.exit(3, 7);
        x.saveState();
        x.exit(5, 0);
        x.setBudget(1, 4);
        x.print(1, 2);
        load(x, "deep 3;x");
        x.appendInput(0x70726f63, 0x65737320, 0x30203020, 0x3020303b, 0x20202020);
        return x;
    }

    /** Everything that an object holds, also what can be undone and restored; the object is used up then. */
    private static String everything(OrphanTree x, int input) {
        StringBuilder all = new StringBuilder(asked(x));
        all.append("\ninput ").append(x.truncateInput(input + 1)).append(x.truncateInput(input));
        all.append("\nerror ").append(x.errorCode()).append(' ').append(x.errorOffset());
        all.append("\noutput ").append(output(x));
        for (int undone = x.undo(); undone >= 0; undone = x.undo()) {
            all.append("\nundone ").append(undone).append(' ').append(x.count(1)).append(x.process(ONE, 7)).append(x.process(GONE, 5));
        }
        all.append("\nthen ").append(asked(x));
        all.append("\nrestored ").append(answer(x::restoreState)).append(' ').append(asked(x));
        all.append("\nloaded ").append(x.loadTree());
        return all.toString();
    }

    private static void sameLines(String got, String due) {
        String[] gotLines = got.split("\n");
        String[] dueLines = due.split("\n");
        is(gotLines.length, dueLines.length);
        for (int i = 0; i < Math.min(gotLines.length, dueLines.length); i++) {
            is(gotLines[i], dueLines[i]);
        }
    }

    private static void leavesAll(Ask call, Object due) {
        OrphanTree x = busy();
        is(answer(() -> call.apply(x)), due);
        sameLines(everything(x, 20), everything(busy(), 20));
    }

    private static void asks(Ask call) {
        OrphanTree x = busy();
        Object got = answer(() -> call.apply(x));
        is(got instanceof Class, false);
        is(answer(() -> call.apply(x)), got);
        sameLines(everything(x, 20), everything(busy(), 20));
    }

    /** A call is refused for every number that no process has. */
    private static void unnamed(Function<Integer, Ask> call) {
        for (int p : NO_PROCESS) {
            leavesAll(call.apply(p), BOUNDS);
        }
    }

    /** A call is refused for numbers outside 0 .. most, and not for this reason within. */
    private static void ranged(int most, Function<Integer, Ask> call) {
        for (int wrong : new int[] {-1, most + 1, Integer.MIN_VALUE, Integer.MAX_VALUE}) {
            leavesAll(call.apply(wrong), ARGUMENT);
        }
        for (int fine : new int[] {0, most}) {
            OrphanTree x = busy();
            is(answer(() -> call.apply(fine).apply(x)) == ARGUMENT, false);
        }
    }

    // Questions.

    @Says("Questions change nothing")
    static void questionsChangeNothing() {
        asks(x -> x.errorCode() + x.errorOffset());
        for (int i = 0; i < 15; i++) {
            int what = i;
            asks(x -> x.process(ONE, what));
            asks(x -> x.process(ZOMBIE, what));
            asks(x -> x.count(Math.min(10, what)));
        }
        asks(x -> x.holder(3) + x.rule(0) + x.atDepth(2) + x.height() + x.allRoom() + x.overfull());
        asks(x -> x.depth(ZOMBIE) + x.below(ONE) + x.walked(2) + x.meet(ZOMBIE, FULL) + x.apart(ZOMBIE, FULL));
        asks(x -> x.isAbove(ONE, ZOMBIE));
        asks(x -> x.adopter(FULL) + x.adopters(FULL) + x.heirNow(ONE));
        asks(x -> x.wouldFall(ONE, 0) + x.wouldFall(ONE, 1) + x.betterCode(ONE) + x.betterCode(TWO));
        asks(x -> x.wouldStand(ONE, 0) + x.wouldStand(TWO, 1));
        asks(x -> x.wouldHave(ZOMBIE, TWO, 0) + x.wouldHave(FULL, TWO, 9));
        asks(x -> x.wouldFallBy(1, 0) + x.wouldFallBy(2, 255) + x.wouldRun(2, 1) + x.wouldRun(1, 0));
        asks(x -> x.weakest(0) + x.weakest(255) + x.roomiest(2));
        asks(x -> x.wouldHold(3, TWO, 0) + x.wouldHold(3, TWO, 1) + x.dutyLife(3));
        asks(x -> x.ofGroup(2) + x.nextTestament(TWO) + x.exited(1) + x.mostAdopted());
        asks(x -> x.meanDepth() + x.readShare() + x.rootShare());
        asks(x -> x.testamentsBelow(ONE) + x.roomBelow(ONE) + x.heaviest(ONE) + x.groupsBelow(ONE) + x.strangers(ONE));
        asks(x -> x.outputByte(0) + x.outputByte(99) + x.outputByte(-1));
    }

    @Says("The output does not belong to what is undone or saved")
    static void printChangesTheOutputAlone() {
        for (int what = 0; what <= 4; what++) {
            OrphanTree x = busy();
            x.print(ONE, what);
            String text = output(x);
            sameLines(everything(x, 20), everything(busy(), 20).replace("output 1(2(6) 4)", "output " + text));
        }
    }

    // Refusals without an exception.

    @Says("Returns the new length of the input buffer; -1, with no change, if it would exceed 500")
    static void appendingToAFullBuffer() {
        OrphanTree x = busy();
        OrphanTree y = busy();
        for (int i = 0; i < 24; i++) {
            x.appendInput(i, i, i, i, i);
            y.appendInput(i, i, i, i, i);
        }
        is(x.appendInput(1, 2, 3, 4, 5), -1);
        sameLines(everything(x, 500), everything(y, 500));
    }

    @Says("Returns true; false, with no change, if length is negative or greater than the current length")
    static void refusedTruncations() {
        for (int length : new int[] {-1, 21, 500, 501, Integer.MIN_VALUE, Integer.MAX_VALUE}) {
            leavesAll(x -> x.truncateInput(length), false);
        }
        leavesAll(x -> x.truncateInput(20), true);
    }

    @Says("Returns the number of changes that can still be undone; -1 if there was none")
    static void undoingTooOften() {
        OrphanTree x = busy();
        OrphanTree y = busy();
        for (int left = 2; left >= 0; left--) {
            is(x.undo(), left);
            is(y.undo(), left);
        }
        is(x.undo(), -1);
        is(x.undo(), -1);
        sameLines(everything(x, 20), everything(y, 20));
    }

    // What throws one exception alone.

    @Says("if what is out of range")
    static void numbersOfWhat() {
        ranged(10, what -> x -> x.count(what));
        ranged(14, what -> x -> x.process(ONE, what));
        ranged(4, what -> x -> x.print(ONE, what));
    }

    @Says("if duty is out of range")
    static void numbersOfDuties() {
        ranged(7, duty -> x -> x.holder(duty));
        ranged(7, duty -> x -> x.give(duty, ONE));
        ranged(7, duty -> x -> x.dutyLife(duty));
    }

    @Says("if duty or code is out of range")
    static void numbersOfDutiesAndCodes() {
        ranged(7, duty -> x -> x.wouldHold(duty, ONE, 0));
        ranged(255, code -> x -> x.wouldHold(1, ONE, code));
        leavesAll(x -> x.wouldHold(8, ONE, 256), ARGUMENT);
        leavesAll(x -> x.wouldHold(-1, ONE, -1), ARGUMENT);
    }

    @Says("if group or code is out of range")
    static void numbersOfGroups() {
        ranged(9, group -> x -> x.kill(group, 0));
        ranged(9, group -> x -> x.wouldFallBy(group, 0));
        ranged(9, group -> x -> x.wouldRun(group, 0));
        ranged(255, code -> x -> x.kill(1, code));
        ranged(255, code -> x -> x.wouldFallBy(1, code));
        ranged(255, code -> x -> x.wouldRun(1, code));
        leavesAll(x -> x.kill(10, 256), ARGUMENT);
        leavesAll(x -> x.kill(-1, -1), ARGUMENT);
    }

    @Says("if group is out of range")
    static void numbersOfGroupsAlone() {
        ranged(9, group -> x -> x.roomiest(group));
        ranged(9, group -> x -> x.ofGroup(group));
        ranged(9, group -> x -> x.refuse(ONE, group));
        ranged(9, group -> x -> x.accept(ONE, group));
    }

    @Says("if code is out of range")
    static void numbersOfCodes() {
        ranged(255, code -> x -> x.exit(ONE, code));
        ranged(255, code -> x -> x.wouldFall(ONE, code));
        ranged(255, code -> x -> x.wouldStand(ONE, code));
        ranged(255, code -> x -> x.wouldHave(ONE, TWO, code));
        ranged(255, code -> x -> x.weakest(code));
        ranged(255, code -> x -> x.prune(ONE, code));
    }

    @Says("if capacity, group or budget is out of range")
    static void numbersOfProcesses() {
        ranged(9, capacity -> x -> x.spawn(ONE, capacity, 0, 0));
        ranged(9, group -> x -> x.spawn(ONE, 0, group, 0));
        ranged(9, budget -> x -> x.spawn(ONE, 0, 0, budget));
    }

    @Says("if capacity is out of range")
    static void numbersOfCapacities() {
        ranged(9, capacity -> x -> x.setCapacity(ONE, capacity));
        ranged(9, capacity -> x -> x.setCapacity(ROOT, capacity));
    }

    @Says("if budget is out of range")
    static void numbersOfBudgets() {
        ranged(9, budget -> x -> x.setBudget(ONE, budget));
        ranged(9, budget -> x -> x.setBudget(ROOT, budget));
    }

    @Says("if both are the same")
    static void itsOwnHeir() {
        leavesAll(x -> x.setHeir(ONE, ONE), ARGUMENT);
        leavesAll(x -> x.setHeir(FULL, FULL), ARGUMENT);
    }

    @Says("if there is no such process")
    static void numbersOfNoProcess() {
        unnamed(p -> x -> x.process(p, 0));
        unnamed(p -> x -> x.depth(p));
        unnamed(p -> x -> x.isAbove(p, ONE));
        unnamed(p -> x -> x.isAbove(ONE, p));
        unnamed(p -> x -> x.meet(p, ONE));
        unnamed(p -> x -> x.meet(ONE, p));
        unnamed(p -> x -> x.below(p));
        unnamed(p -> x -> x.exit(p, 0));
        unnamed(p -> x -> x.read(p));
        unnamed(p -> x -> x.refuse(p, 0));
        unnamed(p -> x -> x.accept(p, 0));
        unnamed(p -> x -> x.setCapacity(p, 0));
        unnamed(p -> x -> x.setBudget(p, 0));
        unnamed(p -> x -> x.setHeir(p, ONE));
        unnamed(p -> x -> x.give(0, p));
        unnamed(p -> x -> x.adopter(p));
        unnamed(p -> x -> x.heirNow(p));
        unnamed(p -> x -> x.wouldFall(p, 0));
        unnamed(p -> x -> x.wouldStand(p, 0));
        unnamed(p -> x -> x.wouldHave(p, ONE, 0));
        unnamed(p -> x -> x.wouldHave(ONE, p, 0));
        unnamed(p -> x -> x.nextTestament(p));
        unnamed(p -> x -> x.prune(p, 0));
        unnamed(p -> x -> x.exchange(p, ONE));
        unnamed(p -> x -> x.exchange(ONE, p));
        unnamed(p -> x -> x.readAll(p));
        unnamed(p -> x -> x.testamentsBelow(p));
        unnamed(p -> x -> x.roomBelow(p));
        unnamed(p -> x -> x.adopters(p));
        unnamed(p -> x -> x.betterCode(p));
        unnamed(p -> x -> x.apart(p, ONE));
        unnamed(p -> x -> x.apart(ONE, p));
        unnamed(p -> x -> x.relieve(p));
        unnamed(p -> x -> x.wouldHold(0, p, 0));
        unnamed(p -> x -> x.heaviest(p));
        unnamed(p -> x -> x.groupsBelow(p));
        unnamed(p -> x -> x.strangers(p));
        unnamed(p -> x -> x.print(p, 0));
    }

    @Says("if there is no such supervisor")
    static void numbersOfNoSupervisor() {
        unnamed(p -> x -> x.spawn(p, 0, 0, 0));
        unnamed(p -> x -> x.move(p, ONE));
        unnamed(p -> x -> x.move(ONE, p));
    }

    @Says("if there is no such process or heir (other than -1)")
    static void numbersOfNoHeir() {
        for (int heir : new int[] {NONE, -2, 40, Integer.MIN_VALUE, Integer.MAX_VALUE}) {
            leavesAll(x -> x.setHeir(ONE, heir), BOUNDS);
        }
        OrphanTree x = busy();
        is(x.setHeir(ONE, -1), 5);
    }

    @Says("if it is the root, or not running")
    static void neitherTheRootNorOneThatIsNotRunning() {
        for (int p : new int[] {ROOT, ZOMBIE, GONE}) {
            leavesAll(x -> x.exit(p, 0), STATE);
            leavesAll(x -> x.refuse(p, 0), STATE);
            leavesAll(x -> x.setHeir(p, ONE), STATE);
            leavesAll(x -> x.setHeir(p, -1), STATE);
            leavesAll(x -> x.adopter(p), STATE);
            leavesAll(x -> x.heirNow(p), STATE);
            leavesAll(x -> x.wouldFall(p, 0), STATE);
            leavesAll(x -> x.wouldStand(p, 0), STATE);
            leavesAll(x -> x.adopters(p), STATE);
            leavesAll(x -> x.betterCode(p), STATE);
            leavesAll(x -> x.relieve(p), STATE);
        }
    }

    @Says("if exits is the root, or not running")
    static void neitherTheRootNorOneThatIsNotRunningExits() {
        for (int p : new int[] {ROOT, ZOMBIE, GONE}) {
            for (int code : new int[] {0, 255}) {
                leavesAll(x -> x.wouldHave(ONE, p, code), STATE);
                leavesAll(x -> x.wouldHave(p, p, code), STATE);
                leavesAll(x -> x.wouldHold(0, p, code), STATE);
                leavesAll(x -> x.wouldHold(7, p, code), STATE);
            }
        }
    }

    @Says("if it is not running")
    static void noneThatIsNotRunning() {
        for (int p : new int[] {ZOMBIE, GONE}) {
            leavesAll(x -> x.read(p), STATE);
            leavesAll(x -> x.accept(p, 0), STATE);
            leavesAll(x -> x.setCapacity(p, 1), STATE);
            leavesAll(x -> x.setBudget(p, 1), STATE);
            leavesAll(x -> x.give(0, p), STATE);
            leavesAll(x -> x.prune(p, 0), STATE);
            leavesAll(x -> x.readAll(p), STATE);
        }
    }

    @Says("if it is gone")
    static void noneThatIsGone() {
        leavesAll(x -> x.depth(GONE), STATE);
        for (int what = 0; what <= 4; what++) {
            int w = what;
            leavesAll(x -> x.print(GONE, w), STATE);
        }
        asks(x -> x.depth(ZOMBIE));
    }

    @Says("if one of both is gone")
    static void noneOfBothIsGone() {
        leavesAll(x -> x.meet(GONE, ONE), STATE);
        leavesAll(x -> x.meet(ONE, GONE), STATE);
        leavesAll(x -> x.meet(GONE, GONE), STATE);
        leavesAll(x -> x.apart(GONE, ONE), STATE);
        leavesAll(x -> x.apart(ONE, GONE), STATE);
        leavesAll(x -> x.apart(GONE, GONE), STATE);
        asks(x -> x.meet(ZOMBIE, ZOMBIE) + x.meet(ONE, ZOMBIE) + x.apart(ZOMBIE, ONE) + x.apart(ZOMBIE, ZOMBIE));
    }

    @Says("if the supervisor is not running or has no room, or there are 40 processes")
    static void refusedSpawns() {
        leavesAll(x -> x.spawn(ZOMBIE, 0, 0, 0), STATE);
        leavesAll(x -> x.spawn(GONE, 0, 0, 0), STATE);
        leavesAll(x -> x.spawn(FULL, 0, 0, 0), STATE);
    }

    @Says("if the process is the root or not running, or the supervisor is not running, is the process or below it, has no room or"
        + " refuses the group of the process (also if it is the supervisor already)")
    static void refusedMoves() {
        leavesAll(x -> x.move(ROOT, ONE), STATE);
        leavesAll(x -> x.move(ROOT, ROOT), STATE);
        leavesAll(x -> x.move(ZOMBIE, ROOT), STATE);
        leavesAll(x -> x.move(GONE, ROOT), STATE);
        leavesAll(x -> x.move(FULL, ZOMBIE), STATE);
        leavesAll(x -> x.move(FULL, GONE), STATE);
        leavesAll(x -> x.move(ONE, ONE), STATE);
        leavesAll(x -> x.move(ONE, TWO), STATE);
        leavesAll(x -> x.move(ONE, 4), STATE);
        leavesAll(x -> x.move(TWO, FULL), STATE);
        leavesAll(x -> x.move(4, FULL), STATE);
    }

    @Says("if one of both is the root or not running, or is the other one or above it")
    static void refusedExchanges() {
        for (int p : new int[] {ROOT, ZOMBIE, GONE, ONE, TWO}) {
            leavesAll(x -> x.exchange(p, FULL), STATE);
            leavesAll(x -> x.exchange(FULL, p), STATE);
            leavesAll(x -> x.exchange(p, p), STATE);
        }
    }

    @Says("if it has no zombie children")
    static void refusedReadings() {
        leavesAll(x -> x.read(ROOT), ELEMENT);
        leavesAll(x -> x.read(ONE), ELEMENT);
        leavesAll(x -> x.read(FULL), ELEMENT);
        OrphanTree x = busy();
        is(x.read(TWO), 3007);
    }

    @Says("if there are not so many")
    static void refusedWalks() {
        for (int index : new int[] {-1, 5, 39, 40, Integer.MIN_VALUE, Integer.MAX_VALUE}) {
            leavesAll(x -> x.walked(index), ELEMENT);
        }
        leavesAll(x -> x.walked(4), 4);
        leavesAll(x -> x.walked(0), 0);
    }

    @Says("if there was no such exit")
    static void noSuchExits() {
        for (int index : new int[] {-1, 2, 39, 40, Integer.MIN_VALUE, Integer.MAX_VALUE}) {
            leavesAll(x -> x.exited(index), ELEMENT);
        }
        leavesAll(x -> x.exited(0), 3);
        leavesAll(x -> x.exited(1), 5);
    }

    @Says("if no state is saved")
    static void nothingToRestore() {
        OrphanTree x = tree("process 0 1 1 1;");
        x.setBudget(1, 2);
        x.print(1, 0);
        fails(STATE, x::restoreState);
        is(x.count(9), 1);
        is(x.process(1, 7), 2);
        is(output(x), "0/1");
        is(x.undo(), 0);
        is(x.process(1, 7), 1);
        fails(STATE, x::restoreState);
    }

    @Says("A method that throws changes nothing")
    static void allThatThrowsInOneObject() {
        OrphanTree x = busy();
        Call[] calls = {() -> x.count(11), () -> x.process(ONE, 15), () -> x.holder(8), () -> x.depth(GONE),
            () -> x.isAbove(NONE, ONE), () -> x.meet(ONE, GONE), () -> x.below(NONE), () -> x.walked(5),
            () -> x.spawn(FULL, 1, 1, 1), () -> x.exit(ROOT, 1), () -> x.kill(1, 256), () -> x.read(ONE),
            () -> x.refuse(ROOT, 1), () -> x.accept(ZOMBIE, 1), () -> x.move(ONE, TWO), () -> x.setCapacity(ONE, 10),
            () -> x.setBudget(ONE, 10), () -> x.setHeir(ONE, ONE), () -> x.give(3, ZOMBIE), () -> x.adopter(ROOT),
            () -> x.heirNow(ROOT), () -> x.wouldFall(ONE, 256), () -> x.wouldStand(ONE, 256), () -> x.wouldHave(ONE, ROOT, 1),
            () -> x.wouldFallBy(10, 1), () -> x.weakest(256), () -> x.roomiest(10), () -> x.ofGroup(10),
            () -> x.nextTestament(NONE), () -> x.exited(2), () -> x.prune(ONE, 256), () -> x.exchange(ONE, TWO),
            () -> x.readAll(ZOMBIE), () -> x.testamentsBelow(NONE), () -> x.roomBelow(NONE), () -> x.adopters(ROOT),
            () -> x.betterCode(ROOT), () -> x.wouldRun(10, 1), () -> x.apart(GONE, ONE), () -> x.relieve(ROOT),
            () -> x.wouldHold(8, ONE, 1), () -> x.dutyLife(8), () -> x.heaviest(NONE), () -> x.groupsBelow(NONE),
            () -> x.strangers(NONE), () -> x.print(ONE, 5)};
        for (Call call : calls) {
            is(answer(call) instanceof Class, true);
        }
        sameLines(everything(x, 20), everything(busy(), 20));
    }

    // Several exceptions.

    @Says("If several exceptions apply to a call, the one that is listed first is thrown")
    static void noSuchProcessIsListedFirst() {
        leavesAll(x -> x.process(NONE, 15), BOUNDS);
        leavesAll(x -> x.spawn(NONE, 10, 10, 10), BOUNDS);
        leavesAll(x -> x.refuse(NONE, 10), BOUNDS);
        leavesAll(x -> x.accept(NONE, 10), BOUNDS);
        leavesAll(x -> x.setCapacity(NONE, 10), BOUNDS);
        leavesAll(x -> x.setBudget(NONE, 10), BOUNDS);
        leavesAll(x -> x.exit(NONE, 256), BOUNDS);
        leavesAll(x -> x.wouldFall(NONE, 256), BOUNDS);
        leavesAll(x -> x.wouldStand(NONE, 256), BOUNDS);
        leavesAll(x -> x.wouldHave(NONE, ONE, 256), BOUNDS);
        leavesAll(x -> x.wouldHave(ONE, NONE, 256), BOUNDS);
        leavesAll(x -> x.wouldHave(NONE, ROOT, 0), BOUNDS);
        leavesAll(x -> x.wouldHave(NONE, ZOMBIE, 256), BOUNDS);
        leavesAll(x -> x.wouldHold(8, NONE, 0), BOUNDS);
        leavesAll(x -> x.wouldHold(0, NONE, 256), BOUNDS);
        leavesAll(x -> x.prune(NONE, 256), BOUNDS);
        leavesAll(x -> x.print(NONE, 5), BOUNDS);
        leavesAll(x -> x.move(ROOT, NONE), BOUNDS);
        leavesAll(x -> x.move(NONE, ZOMBIE), BOUNDS);
        leavesAll(x -> x.move(GONE, NONE), BOUNDS);
        leavesAll(x -> x.exchange(ROOT, NONE), BOUNDS);
        leavesAll(x -> x.exchange(NONE, NONE), BOUNDS);
        leavesAll(x -> x.exchange(NONE, GONE), BOUNDS);
        leavesAll(x -> x.meet(GONE, NONE), BOUNDS);
        leavesAll(x -> x.meet(NONE, GONE), BOUNDS);
        leavesAll(x -> x.apart(GONE, NONE), BOUNDS);
        leavesAll(x -> x.apart(NONE, GONE), BOUNDS);
        leavesAll(x -> x.setHeir(NONE, NONE), BOUNDS);
        leavesAll(x -> x.setHeir(-1, -1), BOUNDS);
        leavesAll(x -> x.setHeir(ROOT, NONE), BOUNDS);
        leavesAll(x -> x.setHeir(ZOMBIE, NONE), BOUNDS);
        leavesAll(x -> x.isAbove(GONE, NONE), BOUNDS);
    }

    @Says("If several exceptions apply to a call, the one that is listed first is thrown")
    static void argumentsAreListedBeforeStates() {
        for (int p : new int[] {ROOT, ZOMBIE, GONE}) {
            leavesAll(x -> x.exit(p, 256), ARGUMENT);
            leavesAll(x -> x.refuse(p, 10), ARGUMENT);
            leavesAll(x -> x.wouldFall(p, -1), ARGUMENT);
            leavesAll(x -> x.wouldStand(p, 256), ARGUMENT);
            leavesAll(x -> x.wouldHave(ONE, p, 256), ARGUMENT);
            leavesAll(x -> x.wouldHold(8, p, 0), ARGUMENT);
            leavesAll(x -> x.wouldHold(0, p, 256), ARGUMENT);
            leavesAll(x -> x.setHeir(p, p), ARGUMENT);
        }
        for (int p : new int[] {ZOMBIE, GONE}) {
            leavesAll(x -> x.accept(p, 10), ARGUMENT);
            leavesAll(x -> x.setCapacity(p, 10), ARGUMENT);
            leavesAll(x -> x.setBudget(p, -1), ARGUMENT);
            leavesAll(x -> x.prune(p, 256), ARGUMENT);
            leavesAll(x -> x.spawn(p, 0, 0, 10), ARGUMENT);
            leavesAll(x -> x.give(8, p), ARGUMENT);
        }
        leavesAll(x -> x.spawn(FULL, 0, 10, 0), ARGUMENT);
        leavesAll(x -> x.print(GONE, 5), ARGUMENT);
    }

    @Says("If several exceptions apply to a call, the one that is listed first is thrown")
    static void giveListsTheDutyFirst() {
        for (int p : NO_PROCESS) {
            leavesAll(x -> x.give(8, p), ARGUMENT);
            leavesAll(x -> x.give(-1, p), ARGUMENT);
        }
    }

    @Says("If several exceptions apply to a call, the one that is listed first is thrown")
    static void readListsTheStateBeforeTheMissingZombies() {
        leavesAll(x -> x.read(ZOMBIE), STATE);
        leavesAll(x -> x.read(GONE), STATE);
        leavesAll(x -> x.read(NONE), BOUNDS);
    }

    @Says("If several exceptions apply to a call, the one that is listed first is thrown")
    static void spawnWithFortyProcesses() {
        OrphanTree x = new OrphanTree();
        fillUp(x, 40);
        fails(BOUNDS, () -> x.spawn(40, 10, 0, 0));
        fails(ARGUMENT, () -> x.spawn(0, 10, 0, 0));
        fails(ARGUMENT, () -> x.spawn(1, 0, -1, 0));
        fails(STATE, () -> x.spawn(0, 0, 0, 0));
        fails(STATE, () -> x.spawn(39, 0, 0, 0));
        is(x.count(0), 40);
        is(x.count(9), 10);
    }
}
