/** The boundary cases that the sentences under "Terms" name, but for the setup text (SetupTest) and refused calls (RefusedTest). */
public final class TermsTest extends Checks {
    /** 0 over 1 over 2 over 3, and the childless 4 under 1. */
    private static final String CHAIN = "process 0 3 1 0;process 1 2 2 0;process 2 1 3 0;process 1 0 4 0;";
    /** 1 over 3 (group 3), and 2, the only one who could adopt it: beside 1, with room for one. */
    private static final String PAIR = "process 0 1 0 0;process 0 1 0 0;process 1 0 3 0;";

    private TermsTest() {
    }

    public static void main(String[] args) throws ReflectiveOperationException {
        checkSentences(TermsTest.class);
    }

    // Processes.

    @Says("There are at most 40, numbered from 0 as they come")
    static void fortyProcessesAreTheMost() {
        OrphanTree x = new OrphanTree();
        for (int number = 1; number < 40; number++) {
            is(x.spawn(number - 1, 1, 0, 0), number);
        }
        fails(STATE, () -> x.spawn(39, 1, 0, 0));
        is(x.count(0), 40);
        is(x.depth(39), 39);
        fails(BOUNDS, () -> x.depth(40));
    }

    @Says("numbers are not used again")
    static void numbersAreNotUsedAgain() {
        OrphanTree x = new OrphanTree();
        fillUp(x, 39);
        is(x.count(1), 1);
        is(x.spawn(0, 0, 0, 0), 39);
        is(x.exit(39, 0), 0);
        fails(STATE, () -> x.spawn(0, 0, 0, 0));
        counts(x, 40, 1, 0, 39);
        is(x.undo(), 9);
        is(x.undo(), 8);
        is(x.spawn(0, 0, 0, 0), 39);
    }

    @Says("Process 0 is the root, which is always running")
    static void theRootIsAlwaysRunning() {
        OrphanTree x = tree(CHAIN);
        fails(STATE, () -> x.exit(0, 0));
        is(x.kill(0, 1), 0);
        is(x.process(0, 5), 0);
        is(x.prune(0, 1), 4);
        is(x.process(0, 5), 0);
        is(x.walked(0), 0);
        is(x.process(0, 10), -1);
    }

    @Says("The supervisor of a process that is running or a zombie is always running")
    static void supervisorsAreRunning() {
        OrphanTree x = tree("root 9 1;" + CHAIN);
        x.exit(3, 1);
        x.exit(4, 1);
        x.exit(2, 1);
        supervisors(x, -1, 0, 1, 1, 1);
        x.exit(1, 1);
        supervisors(x, -1, 0, 0, 0, 0, 0);
        is(x.process(3, 5), 2);
        is(x.process(5, 5), 0);
    }

    @Says("A process has a capacity (0 to 9), a group (0 to 9), a budget (0 to 9)")
    static void numbersOfAProcess() {
        OrphanTree x = tree("process 0 0 0 0;process 0 9 9 9;");
        properties(x, 1, 0, 0, 0, 0, 0, 0, 0, 0);
        properties(x, 2, 0, 9, 9, 0, 0, 0, 9, 9);
        is(x.spawn(0, 0, 0, 0), 3);
        is(x.spawn(0, 9, 9, 9), 4);
        is(x.spawn(0, 1, 2, 3), 5);
        properties(x, 3, 0, 0, 0, 0, 0, 0, 0, 0);
        properties(x, 4, 0, 9, 9, 0, 0, 0, 9, 9);
        properties(x, 5, 0, 1, 1, 0, 0, 0, 2, 3);
        for (int wrong : new int[] {-1, 10, Integer.MIN_VALUE, Integer.MAX_VALUE}) {
            fails(ARGUMENT, () -> x.spawn(0, wrong, 0, 0));
            fails(ARGUMENT, () -> x.spawn(0, 0, wrong, 0));
            fails(ARGUMENT, () -> x.spawn(0, 0, 0, wrong));
            fails(ARGUMENT, () -> x.setCapacity(1, wrong));
            fails(ARGUMENT, () -> x.setBudget(1, wrong));
        }
        is(x.setCapacity(1, 9), 0);
        is(x.setCapacity(1, 0), 9);
        is(x.setBudget(1, 9), 0);
        is(x.setBudget(1, 0), 9);
    }

    @Says("The root has the capacity 9 and the budget 0 at first if the setup tells no others, the group 0, no heir, and never"
        + " refuses a group")
    static void theRootAtFirst() {
        properties(new OrphanTree(), 0, -1, 9, 9, 0, 0, 0, 0, 0, -1, 255, -1, 0, 0, -1, 0);
        OrphanTree x = tree("process 0 1 9 0;");
        properties(x, 0, -1, 9, 8, 1, 0, 0, 0, 0, -1, 255, -1, 0, 0, -1, 0);
        fails(STATE, () -> x.refuse(0, 9));
        is(x.process(0, 11), 0);
        is(x.accept(0, 9), false);
        is(x.move(1, 0), 0);
        properties(tree("root 1 2;"), 0, -1, 1, 1, 0, 0, 0, 0, 2, -1, 255, -1, 0, 0, -1, 0);
    }

    @Says("The room of a process is its capacity - the number of its running children, but at least 0")
    static void roomIsNeverNegative() {
        OrphanTree x = tree("process 0 2 0 0;process 1 0 0 0;");
        is(x.process(1, 2), 1);
        is(x.spawn(1, 0, 0, 0), 3);
        is(x.process(1, 2), 0);
        is(x.setCapacity(1, 1), 2);
        is(x.process(1, 2), 0);
        is(x.setCapacity(1, 0), 1);
        is(x.process(1, 2), 0);
        is(x.allRoom(), 8);
        is(x.setCapacity(1, 3), 0);
        is(x.process(1, 2), 1);
    }

    @Says("The room of a process is its capacity - the number of its running children, but at least 0")
    static void zombiesTakeNoRoom() {
        OrphanTree x = tree("process 0 1 0 0;process 1 0 0 0;");
        is(x.process(1, 2), 0);
        x.exit(2, 0);
        is(x.process(1, 4), 1);
        is(x.process(1, 2), 1);
        is(x.spawn(1, 0, 0, 0), 3);
    }

    @Says("There are 8 duties, 0 to 7. Each one is held by a running process, at first by the root")
    static void eightDuties() {
        OrphanTree x = tree("process 0 1 0 0;process 1 0 0 0;");
        for (int duty = 0; duty < 8; duty++) {
            is(x.holder(duty), 0);
            is(x.give(duty, 2), 0);
        }
        fails(ARGUMENT, () -> x.holder(-1));
        fails(ARGUMENT, () -> x.holder(8));
        is(x.process(2, 9), 255);
        is(x.exit(2, 0), 0);
        is(x.process(2, 9), 0);
        is(x.process(1, 9), 255);
        is(x.exit(1, 0), 0);
        is(x.process(0, 9), 255);
        is(x.count(8), 8);
    }

    // The exit.

    @Says("The exit of a running process p other than the root with an exit code (0 to 255)")
    static void exitCodes() {
        OrphanTree x = tree("process 0 9 0 0;process 1 0 0 0;process 1 0 0 0;");
        fails(ARGUMENT, () -> x.exit(2, -1));
        fails(ARGUMENT, () -> x.exit(2, 256));
        fails(ARGUMENT, () -> x.exit(2, Integer.MIN_VALUE));
        fails(ARGUMENT, () -> x.exit(2, Integer.MAX_VALUE));
        is(x.exit(2, 0), 0);
        is(x.exit(3, 255), 0);
        is(x.process(2, 10), 0);
        is(x.process(3, 10), 255);
        is(x.read(1), 2000);
        is(x.read(1), 3255);
    }

    @Says("p is a zombie now; its testament is the exit code")
    static void aZombieHasATestament() {
        OrphanTree x = tree("process 0 2 0 0;process 1 0 0 0;");
        is(x.process(2, 10), -1);
        x.exit(2, 9);
        is(x.process(2, 5), 1);
        is(x.process(2, 10), 9);
        is(x.process(2, 0), 1);
        counts(x, 3, 2, 1, 0, 1);
    }

    @Says("If the exit code is not 0")
    static void noReplacementWithTheCode0() {
        OrphanTree x = tree("root 9 9;process 0 1 1 0;process 0 1 1 0;");
        x.exit(1, 0);
        is(x.process(1, 13), -1);
        is(x.process(0, 7), 9);
        x.exit(2, 1);
        is(x.process(2, 13), 3);
        is(x.process(0, 7), 8);
    }

    @Says("has a budget above 0")
    static void noReplacementWithTheBudget0() {
        OrphanTree x = tree("root 9 1;process 0 1 1 5;");
        x.exit(1, 1);
        is(x.process(1, 13), 2);
        is(x.process(0, 7), 0);
        x.exit(2, 1);
        is(x.process(2, 13), -1);
        is(x.process(0, 7), 0);
        is(x.count(0), 3);
        is(x.count(7), 1);
    }

    @Says("and there are fewer than 40 processes, p is replaced")
    static void noReplacementBehindTheFortieth() {
        OrphanTree x = tree("root 9 9;");
        fillUp(x, 38);
        x.spawn(0, 0, 0, 0);
        x.exit(38, 1);
        is(x.process(38, 13), 39);
        is(x.process(0, 7), 8);
        x.exit(39, 1);
        is(x.process(39, 13), -1);
        is(x.process(0, 7), 8);
        counts(x, 40, 1, 0, 39, 39, 0, 0, 1);
    }

    @Says("a new process comes with the supervisor s and with the capacity, the group and the budget of p, without an heir,"
        + " refusing nothing")
    static void theReplacement() {
        OrphanTree x = tree("order old;process 0 3 1 2;process 1 4 5 6;process 0 0 0 0;heir 2 3;refuse 2 7;will 2 0 3;duty 1 2;");
        x.exit(2, 255);
        properties(x, 4, 1, 4, 4, 0, 0, 0, 5, 6, -1, 2, -1, 0, 0, -1, 0);
        properties(x, 2, 1, 4, 0, 0, 0, 1, 5, 6, 3, 0, 255, 128, 0, 4, 1);
        is(x.process(1, 7), 1);
        is(x.process(1, 2), 2);
    }

    @Says("The duties of p go to its replacement if there is one")
    static void dutiesGoToTheReplacement() {
        OrphanTree x = tree("root 9 1;process 0 3 0 0;process 1 0 0 0;process 0 0 0 0;heir 1 3;will 1 0 3;duty 0 1;duty 7 1;");
        x.exit(1, 1);
        is(x.process(4, 9), 129);
        is(x.count(8), 6);
    }

    @Says("each one for itself, to the process to which a will of p leaves this duty, if that is running and not doomed")
    static void dutiesGoByWills() {
        String text = "process 0 3 0 0;process 1 0 0 0;process 0 0 5 0;process 0 0 0 0;heir 1 4;will 1 0 3;will 1 7 0;"
            + "duty 0 1;duty 1 1;duty 7 1;";
        OrphanTree x = tree(text);
        x.exit(1, 0);
        is(x.holder(0), 3);
        is(x.holder(1), 4);
        is(x.holder(7), 0);
        OrphanTree late = tree(text);
        late.exit(3, 0);
        late.exit(1, 0);
        is(late.holder(0), 4);
        OrphanTree doomed = tree(text.replace("process 0 3 0 0", "process 0 3 5 0"));
        is(doomed.kill(5, 0), 2);
        is(doomed.holder(0), 4);
    }

    @Says("otherwise to its heir, if that is running and not doomed")
    static void dutiesGoToTheHeir() {
        String text = "process 0 3 0 0;process 1 0 0 0;process 0 0 5 0;heir 1 3;duty 4 1;";
        OrphanTree x = tree(text);
        x.exit(1, 0);
        is(x.holder(4), 3);
        OrphanTree gone = tree(text);
        gone.exit(3, 0);
        gone.exit(1, 0);
        is(gone.holder(4), 2);
        OrphanTree zombie = tree("process 0 3 0 0;process 1 0 0 0;process 1 0 5 0;heir 1 3;duty 4 1;");
        zombie.exit(3, 0);
        zombie.exit(1, 0);
        is(zombie.holder(4), 2);
        OrphanTree none = tree(text);
        none.setHeir(1, -1);
        none.exit(1, 0);
        is(none.holder(4), 2);
    }

    @Says("otherwise to the one of its running children, doomed ones left aside, that has the smallest number; otherwise to s")
    static void dutiesGoToAChild() {
        OrphanTree x = tree("process 0 3 0 0;process 1 9 0 0;process 2 0 0 0;process 2 0 0 0;process 2 0 0 0;duty 6 2;");
        x.exit(3, 0);
        x.exit(2, 0);
        is(x.holder(6), 4);
        x.exit(4, 0);
        is(x.process(4, 0), 1);
        is(x.holder(6), 1);
        x.exit(5, 0);
        x.exit(1, 0);
        is(x.holder(6), 0);
    }

    @Says("The running children of p are adopted, by their numbers, one behind the other")
    static void orphansByTheirNumbers() {
        OrphanTree x = tree("order old;process 0 1 0 0;process 0 2 0 0;process 2 0 0 0;process 2 0 0 0;");
        is(x.exit(2, 0), 1);
        supervisors(x, -1, 0, 0, 1, 0);
        counts(x, 5, 4, 0, 1, 1, 2, 1);
    }

    @Says("by the replacement if it has room (nothing else is asked then; it is an adoption, too)")
    static void theReplacementAdopts() {
        OrphanTree x = tree("order old;deep 1;root 9 1;process 0 2 0 0;process 1 0 3 0;process 1 0 3 0;process 0 9 0 0;refuse 1 3;");
        is(x.exit(1, 1), 0);
        supervisors(x, -1, 0, 5, 5, 0, 0);
        is(x.process(2, 12), 1);
        counts(x, 6, 5, 0, 1, 1, 2, 0, 1);
        OrphanTree small = tree("order old;root 9 1;process 0 2 0 0;process 1 0 3 0;process 1 0 3 0;process 0 9 0 0;");
        small.setCapacity(1, 1);
        is(small.exit(1, 1), 0);
        supervisors(small, -1, 0, 5, 4, 0, 0);
        OrphanTree none = tree("order old;root 9 1;process 0 2 0 0;process 1 0 3 0;process 1 0 3 0;process 0 9 0 0;");
        none.setCapacity(1, 0);
        is(none.exit(1, 1), 0);
        supervisors(none, -1, 0, 4, 4, 0, 0);
    }

    @Says("The zombie children of p get the supervisor s. Then, if s is the root, it reads the testaments of all its zombie"
        + " children")
    static void zombiesGetTheSupervisorOfP() {
        OrphanTree x = tree(CHAIN);
        x.exit(3, 1);
        x.exit(2, 2);
        supervisors(x, -1, 0, 1, 1, 1);
        counts(x, 5, 3, 2, 0);
        x.exit(1, 3);
        supervisors(x, -1, 0, 0, 0, 0);
        counts(x, 5, 2, 0, 3);
        OrphanTree gone = tree(CHAIN);
        gone.exit(3, 1);
        gone.read(2);
        gone.exit(2, 2);
        supervisors(gone, -1, 0, 1, 2, 1);
        is(gone.process(1, 4), 1);
    }

    @Says("A testament is read by the supervisor of a zombie, which is its reader; the zombie is gone then")
    static void theReaderOfATestament() {
        OrphanTree x = tree(CHAIN);
        x.exit(3, 5);
        is(x.process(3, 5), 1);
        fails(ELEMENT, () -> x.read(1));
        is(x.read(2), 3005);
        is(x.process(3, 5), 2);
        is(x.process(3, 10), 5);
        fails(ELEMENT, () -> x.read(2));
        x.exit(2, 6);
        is(x.read(1), 2006);
        is(x.process(2, 0), 1);
        x.exit(1, 7);
        is(x.process(1, 5), 2);
        is(x.process(1, 0), 0);
        is(x.process(3, 0), 2);
        is(x.readShare(), 1.0);
    }

    @Says("Several zombies of a supervisor are read in the order in which they exited")
    static void zombiesAreReadInTheOrderOfTheirExits() {
        OrphanTree x = tree(CHAIN);
        x.exit(4, 1);
        x.exit(3, 2);
        x.exit(2, 3);
        is(x.nextTestament(1), 4);
        is(x.read(1), 4001);
        is(x.read(1), 3002);
        is(x.read(1), 2003);
        fails(ELEMENT, () -> x.read(1));
    }

    // Adoption.

    @Says("An orphan o can be adopted by a running process")
    static void onlyRunningOnesAdopt() {
        is(tree("order old;" + PAIR).adopter(3), 2);
        OrphanTree gone = tree("order old;" + PAIR);
        gone.exit(2, 0);
        is(gone.adopter(3), 0);
        OrphanTree zombie = tree("order old;process 0 1 0 0;process 0 1 0 0;process 1 0 3 0;process 2 5 0 0;");
        is(zombie.adopter(3), 4);
        zombie.exit(4, 0);
        is(zombie.process(4, 5), 1);
        zombie.setCapacity(2, 0);
        is(zombie.adopter(3), 0);
    }

    @Says("that is neither o nor below o")
    static void noneBelowAdopts() {
        OrphanTree x = tree("order old group room near kin;process 0 1 0 0;process 1 9 0 0;process 2 9 0 0;process 3 9 0 0;");
        is(x.adopter(2), 0);
        is(x.adopter(3), 0);
        is(x.setCapacity(1, 2), 1);
        is(x.adopter(3), 1);
        is(x.adopter(4), 1);
        is(x.adopters(2), 1);
        is(x.adopters(4), 3);
    }

    @Says("has room, does not refuse the group of o")
    static void roomAndRefusals() {
        is(tree("order old;process 0 1 0 0;process 0 1 0 0;process 1 0 3 0;").adopter(3), 2);
        is(tree("order old;process 0 1 0 0;process 0 0 0 0;process 1 0 3 0;").adopter(3), 0);
        is(tree("order old;process 0 1 0 0;process 0 1 0 0;process 1 0 3 0;process 2 0 0 0;").adopter(3), 0);
        is(tree("order old;" + PAIR + "refuse 2 3;").adopter(3), 0);
        is(tree("order old;" + PAIR + "refuse 2 2;refuse 2 4;refuse 3 3;refuse 1 3;").adopter(3), 2);
        OrphanTree nine = tree("order old;process 0 1 0 0;process 0 1 0 0;process 1 0 9 0;refuse 2 9;");
        is(nine.adopter(3), 0);
        nine.accept(2, 9);
        is(nine.adopter(3), 2);
    }

    @Says("has room, does not refuse the group of o")
    static void everyRuleLooksAtRoomAndRefusals() {
        for (String rule : new String[] {"near", "group", "room", "kin", "old"}) {
            int c = rule.equals("near") ? 1 : 4;
            String text = "order " + rule + ";process 0 " + (c == 1 ? 3 : 2) + " 3 0;process 1 1 5 0;process 2 0 3 0;process 1 "
                + (c == 4 ? 1 : 0) + " 3 0;";
            OrphanTree x = tree(text);
            is(x.adopter(3), c);
            x.setCapacity(c, x.process(c, 3));
            is(x.adopter(3), 0);
            is(tree(text + "refuse " + c + " 5;refuse 2 3;refuse 3 3;").adopter(3), c);
            is(tree(text + "refuse " + c + " 3;").adopter(3), 0);
            is(tree(text + "deep 2;").adopter(3), c == 1 ? 1 : 0);
            is(tree(text + "deep 1;").adopter(3), 0);
        }
    }

    @Says("and has fewer processes above it than the setting deep")
    static void theSettingDeep() {
        is(tree("order old;deep 1;" + PAIR).adopter(3), 0);
        is(tree("order old;deep 2;" + PAIR).adopter(3), 2);
        String lower = "process 0 1 0 0;process 0 1 0 0;process 2 1 0 0;process 1 0 0 0;";
        is(tree("order old;deep 2;" + lower).adopter(4), 0);
        is(tree("order old;deep 3;" + lower).adopter(4), 3);
        OrphanTree chain = tree("order old;");
        for (int i = 0; i < 20; i++) {
            chain.spawn(i, 1, 0, 0);
        }
        chain.spawn(0, 1, 1, 0);
        chain.spawn(21, 0, 1, 0);
        is(chain.depth(20), 20);
        is(chain.adopter(22), 0);
        chain.setCapacity(19, 2);
        is(chain.adopter(22), 19);
    }

    @Says("and has fewer processes above it than the setting deep")
    static void siblingsAreAsDeepAsTheyAre() {
        String text = "order old;process 0 2 0 0;process 1 1 0 0;process 1 1 0 0;";
        OrphanTree x = tree("deep 2;" + text);
        is(x.exit(1, 0), 1);
        supervisors(x, -1, 0, 0, 2);
        OrphanTree y = tree("deep 3;" + text);
        is(y.exit(1, 0), 1);
        supervisors(y, -1, 0, 3, 0);
    }

    @Says("The former supervisor itself is left aside")
    static void theFormerSupervisorIsLeftAside() {
        for (String rule : new String[] {"near", "group", "room", "kin", "old", ""}) {
            is(tree("order " + rule + ";process 0 9 0 0;process 1 0 0 0;").adopter(2), 0);
        }
        OrphanTree x = tree("order room;process 0 9 0 0;process 1 0 0 0;process 0 1 0 0;");
        is(x.adopter(2), 3);
        is(x.refuse(1, 0), 1);
        is(x.process(2, 0), 3);
    }

    @Says("The rules of the setup are tried one after the other; the first one that finds a process decides")
    static void theFirstRuleThatFindsOneDecides() {
        String text = "process 0 2 0 0;process 1 1 0 0;process 2 0 5 0;process 1 2 0 0;process 0 3 0 0;process 0 1 5 0;";
        is(tree("order near kin room old group;" + text).adopter(3), 4);
        is(tree("order near room kin old group;" + text).adopter(3), 5);
        is(tree("order old near room kin group;" + text).adopter(3), 4);
        is(tree("order group near room kin old;" + text).adopter(3), 6);
        is(tree(text).adopter(3), 6);
        OrphanTree x = tree(text);
        x.setCapacity(1, 3);
        is(x.adopter(3), 1);
    }

    @Says("near: the processes above the former supervisor of o, the lowest one first, the root left aside: the first one that"
        + " can adopt o")
    static void near() {
        OrphanTree x = tree("order near room;process 0 2 0 0;process 1 2 0 0;process 2 1 0 0;process 3 0 0 0;process 0 1 0 0;");
        is(x.adopter(4), 2);
        x.setCapacity(2, 1);
        is(x.adopter(4), 1);
        x.setCapacity(1, 1);
        is(x.adopter(4), 5);
        is(x.adopter(1), 5);
        is(x.adopter(2), 5);
        x.setCapacity(1, 2);
        is(x.adopter(3), 1);
        is(x.adopter(2), 5);
    }

    @Says("group: of the processes with the group of o that can adopt it, the root left aside, the one with the most room, on a"
        + " tie the smallest number")
    static void group() {
        String text = "order group;process 0 9 0 0;process 1 0 0 0;process 0 2 0 0;process 0 2 0 0;process 0 9 5 0;";
        OrphanTree x = tree(text);
        is(x.adopter(2), 3);
        x.setCapacity(4, 3);
        is(x.adopter(2), 4);
        x.setCapacity(3, 3);
        is(x.adopter(2), 3);
        x.setCapacity(3, 0);
        x.setCapacity(4, 0);
        is(x.adopter(2), 0);
        is(tree("order group old;process 0 9 5 0;process 1 0 0 0;process 0 1 5 0;").adopter(2), 3);
    }

    @Says("room: likewise of all processes that can adopt it")
    static void room() {
        OrphanTree x = tree("order room;process 0 9 0 0;process 1 0 0 0;process 0 2 1 0;process 0 2 2 0;");
        is(x.adopter(2), 3);
        x.setCapacity(4, 3);
        is(x.adopter(2), 4);
        x.setCapacity(3, 3);
        is(x.adopter(2), 3);
        is(tree("order room old;process 0 1 0 0;process 1 0 0 0;process 0 1 0 0;").adopter(2), 3);
    }

    @Says("kin: the other running children of the supervisor of the former supervisor of o (none if the former supervisor is"
        + " the root), by their numbers: the first one that can adopt o")
    static void kin() {
        OrphanTree x = tree("order kin;process 0 1 0 0;process 0 2 0 0;process 2 1 0 0;process 0 1 0 0;process 0 9 0 0;");
        is(x.adopter(3), 1);
        x.setCapacity(1, 0);
        is(x.adopter(3), 4);
        x.exit(4, 0);
        is(x.adopter(3), 5);
        x.exit(5, 0);
        is(x.adopter(3), 0);
        is(tree("order kin;process 0 9 0 0;process 0 9 0 0;").adopter(1), 0);
        is(tree("order kin;process 0 9 0 0;process 0 2 0 0;process 2 1 0 0;process 2 9 0 0;").adopter(3), 1);
        is(tree("order kin;process 0 0 0 0;process 0 2 0 0;process 2 1 0 0;process 2 9 0 0;").adopter(3), 0);
    }

    @Says("old: of all processes that can adopt it, the root left aside, the one with the smallest number")
    static void old() {
        OrphanTree x = tree("order old;process 0 1 0 0;process 0 3 0 0;process 1 0 0 0;process 2 5 0 0;");
        is(x.adopter(3), 2);
        x.setCapacity(2, 1);
        is(x.adopter(3), 4);
        is(x.adopter(4), 0);
        x.setCapacity(1, 2);
        is(x.adopter(4), 1);
    }

    @Says("If no rule finds one, the root adopts o, whatever its room is")
    static void theRootAdoptsTheRest() {
        OrphanTree x = tree("order near group room kin old;root 1 0;process 0 2 0 0;process 1 0 0 0;process 1 0 0 0;");
        is(x.process(0, 2), 0);
        is(x.exit(1, 0), 2);
        is(x.process(0, 3), 2);
        is(x.process(0, 2), 0);
        is(x.count(6), 2);
        is(x.overfull(), 1);
        OrphanTree none = tree("root 1 0;process 0 2 0 0;process 1 0 0 0;");
        none.setCapacity(0, 0);
        is(none.refuse(1, 0), 1);
        is(none.process(2, 0), 0);
    }

    // The kill.

    @Says("all its running processes but the root are doomed (not those that come in it as replacements)")
    static void whoIsDoomed() {
        OrphanTree x = tree("root 9 9;process 0 1 0 0;process 1 0 0 0;process 0 0 1 0;");
        x.exit(2, 0);
        is(x.kill(0, 1), 1);
        is(x.process(1, 13), 4);
        is(x.process(4, 5), 0);
        is(x.process(0, 5), 0);
        is(x.process(3, 5), 0);
        is(x.count(4), 2);
        is(x.kill(0, 1), 1);
        is(x.process(4, 13), 5);
        is(x.kill(2, 1), 0);
        is(x.count(4), 3);
    }

    @Says("they exit, by their numbers, with the same exit code")
    static void theKilledExitByTheirNumbers() {
        OrphanTree x = tree("process 0 9 1 0;process 1 9 1 0;process 2 0 0 0;process 2 0 1 0;");
        x.move(1, 0);
        x.exchange(3, 4);
        is(x.kill(1, 255), 3);
        is(x.exited(0), 1);
        is(x.exited(1), 2);
        is(x.exited(2), 4);
        for (int p : new int[] {1, 2, 4}) {
            is(x.process(p, 10), 255);
        }
    }

    @Says("A doomed process neither adopts")
    static void noDoomedOneAdopts() {
        String text = "order old;process 0 1 1 0;process 1 0 0 0;process 0 1 1 0;process 0 1 2 0;";
        OrphanTree x = tree(text);
        is(x.kill(1, 0), 2);
        is(x.process(2, 0), 4);
        is(x.process(2, 12), 1);
        is(x.count(5), 1);
        OrphanTree one = tree(text);
        is(one.exit(1, 0), 0);
        is(one.process(2, 0), 3);
        OrphanTree last = tree("order old;process 0 1 1 0;process 1 0 0 0;process 0 1 1 0;");
        is(last.kill(1, 0), 2);
        is(last.process(2, 0), 0);
        is(last.process(2, 12), 1);
        counts(last, 4, 2, 0, 2, 2, 1, 1);
    }

    @Says("nor inherits (but for step 3: to s)")
    static void noDoomedOneInherits() {
        String text = "process 0 9 1 0;process 1 0 1 0;process 1 0 0 0;process 0 0 1 0;process 0 0 1 0;"
            + "duty 0 1;duty 1 1;heir 1 4;will 1 1 5;";
        OrphanTree x = tree(text);
        is(x.kill(1, 0), 4);
        is(x.process(3, 9), 3);
        OrphanTree one = tree(text);
        one.exit(1, 0);
        is(one.holder(0), 4);
        is(one.holder(1), 5);
        OrphanTree child = tree("process 0 9 1 0;process 1 0 1 0;duty 0 1;");
        is(child.kill(1, 0), 2);
        is(child.holder(0), 0);
    }

    @Says("nor inherits (but for step 3: to s)")
    static void aDoomedSupervisorInherits() {
        OrphanTree x = tree("order;process 0 9 1 0;process 0 9 5 0;process 0 9 1 0;duty 2 1;will 3 2 2;");
        x.move(1, 3);
        is(x.kill(1, 0), 2);
        is(x.holder(2), 2);
    }

    @Says("nor is replaced by its supervisor if that is doomed, too")
    static void noDoomedOneIsReplacedByADoomedOne() {
        OrphanTree x = tree("order;process 0 9 1 0;process 0 9 1 5;process 0 9 2 5;process 0 9 1 0;");
        x.move(1, 2);
        x.move(4, 3);
        is(shape(x), "0(2(1) 3(4))");
        is(x.kill(1, 1), 3);
        is(x.process(1, 13), -1);
        is(x.process(2, 7), 5);
        is(x.process(2, 13), -1);
        is(x.process(4, 13), 5);
        is(x.process(3, 7), 4);
    }

    @Says("behind the kill nobody is doomed any more")
    static void nobodyIsDoomedBehindTheKill() {
        OrphanTree x = tree("order old;process 0 1 1 0;process 1 1 0 0;process 0 1 1 0;process 3 0 0 0;root 9 2;");
        is(x.kill(1, 7), 2);
        is(x.process(1, 13), 5);
        is(x.process(3, 13), 6);
        supervisors(x, -1, 0, 5, 0, 6, 0, 0);
        x.setCapacity(6, 2);
        is(x.adopter(2), 6);
        x.setHeir(2, 5);
        x.give(3, 2);
        is(x.heirNow(2), 5);
        for (int left = 3; left >= 0; left--) {
            is(x.undo(), left);
        }
        x.setCapacity(3, 2);
        is(x.adopter(2), 3);
    }

    // Changes and questions.

    @Says("Changes are the methods whose description says so, also if nothing is different then")
    static void changesThatChangeNothing() {
        OrphanTree x = tree("process 0 2 1 3;process 0 2 1 0;process 1 0 4 0;refuse 1 2;heir 1 2;duty 5 1;");
        Call[] changes = {() -> x.kill(9, 0), () -> x.refuse(1, 2), () -> x.accept(1, 3), () -> x.accept(0, 0),
            () -> x.move(1, 0), () -> x.setCapacity(1, 2), () -> x.setBudget(1, 3), () -> x.setHeir(1, 2), () -> x.give(5, 1),
            () -> x.prune(3, 0), () -> x.exchange(1, 2), () -> x.readAll(1), () -> x.readAll(0), () -> x.relieve(1)};
        for (Call change : changes) {
            is(x.count(9), 0);
            change.answer();
            is(x.count(9), 1);
            is(x.undo(), 0);
        }
        properties(x, 1, 0, 2, 1, 1, 0, 0, 1, 3, 2, 32, -1, 4, 0, -1, 0);
    }

    @Says("The latest 10 changes can be undone")
    static void everyChangeCanBeUndone() {
        Ask[] changes = {x -> x.spawn(2, 1, 2, 3), x -> x.exit(1, 1), x -> x.exit(3, 0), x -> x.kill(1, 9), x -> x.read(3),
            x -> x.refuse(1, 4), x -> x.accept(1, 2), x -> x.move(4, 2), x -> x.setCapacity(1, 9), x -> x.setBudget(0, 9),
            x -> x.setHeir(1, -1), x -> x.give(5, 4), x -> x.prune(1, 0), x -> x.exchange(3, 2), x -> x.readAll(1),
            x -> x.relieve(1)};
        for (Ask change : changes) {
            OrphanTree x = tree("order old;root 9 2;process 0 3 1 3;process 0 2 1 0;process 1 1 4 0;process 1 1 5 0;"
                + "process 3 0 0 0;process 1 0 4 0;refuse 1 2;heir 1 2;duty 5 1;");
            x.exit(5, 0);
            x.exit(6, 7);
            x.setCapacity(1, 1);
            String before = asked(x);
            is(answer(() -> change.apply(x)) instanceof Class, false);
            is(x.count(9), 4);
            is(asked(x).equals(before), false);
            is(x.undo(), 3);
            is(asked(x), before);
        }
    }

    @Says("The latest 10 changes can be undone")
    static void tenChangesCanBeUndone() {
        OrphanTree x = tree("process 0 0 0 0;");
        for (int i = 1; i <= 9; i++) {
            x.setCapacity(1, i);
            is(x.count(9), i);
        }
        x.setBudget(1, 1);
        is(x.count(9), 10);
        x.setBudget(1, 2);
        is(x.count(9), 10);
        for (int left = 9; left >= 0; left--) {
            is(x.undo(), left);
        }
        is(x.undo(), -1);
        is(x.process(1, 1), 1);
        is(x.process(1, 7), 0);
    }

    @Says("The latest 10 changes can be undone")
    static void exactlyTenAreUndone() {
        OrphanTree x = tree("process 0 0 0 0;");
        for (int i = 0; i < 10; i++) {
            x.setCapacity(1, 9 - i);
        }
        for (int left = 9; left >= 0; left--) {
            is(x.undo(), left);
        }
        is(x.process(1, 1), 0);
        is(x.undo(), -1);
        is(x.undo(), -1);
        is(x.process(1, 1), 0);
    }

    @Says("what is asked about the future is worked out on a copy")
    static void forecastsChangeNothing() {
        OrphanTree x = tree("root 9 1;" + CHAIN + "duty 1 3;");
        is(x.wouldFall(1, 1), 0);
        is(x.wouldStand(1, 0), 2);
        is(x.wouldHave(3, 2, 0), 1);
        is(x.wouldFallBy(2, 0), 0);
        is(x.wouldRun(2, 0), 4);
        is(x.wouldHold(1, 3, 0), 2);
        is(x.dutyLife(1), 4);
        is(x.weakest(0), 1);
        is(x.betterCode(1), 1);
        is(x.heirNow(3), 2);
        is(x.adopter(3), 1);
        counts(x, 5, 5, 0, 0, 0, 0, 0, 0, 7, 0, 20);
        is(shape(x), "0(1(2(3) 4))");
        is(x.process(0, 7), 1);
    }

    @Says("A process can be named in a call if it has come, whether it is running or not")
    static void everyProcessThatHasComeCanBeNamed() {
        OrphanTree x = tree("process 0 2 0 0;process 1 0 0 0;");
        x.exit(2, 3);
        is(x.process(2, 5), 1);
        is(x.setHeir(1, 2), -1);
        x.read(1);
        is(x.process(2, 5), 2);
        is(x.setHeir(1, -1), 2);
        is(x.setHeir(1, 2), -1);
        is(x.wouldHave(2, 1, 0), 1);
        is(x.isAbove(1, 2), false);
        is(x.heaviest(2), -1);
        fails(BOUNDS, () -> x.process(3, 5));
        fails(BOUNDS, () -> x.setHeir(1, 3));
        fails(BOUNDS, () -> x.wouldHave(3, 1, 0));
        fails(BOUNDS, () -> x.process(40, 5));
        fails(BOUNDS, () -> x.process(Integer.MAX_VALUE, 5));
        fails(BOUNDS, () -> x.process(Integer.MIN_VALUE, 5));
        is(x.spawn(0, 0, 0, 0), 3);
        is(x.process(3, 5), 0);
    }
}
