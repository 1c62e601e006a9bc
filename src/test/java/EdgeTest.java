/** The boundary cases that the promises 7 to 65 name; what they throw stands in RefusedTest. */
public final class EdgeTest extends Checks {
    /** 0 over 1 over 2 over 3, and the childless 4 under 1. */
    private static final String CHAIN = "process 0 3 1 0;process 1 2 2 0;process 2 1 3 0;process 1 0 4 0;";

    private EdgeTest() {
    }

    public static void main(String[] args) throws ReflectiveOperationException {
        checkSentences(EdgeTest.class);
    }

    /** A chain from the root down to a process, as long as there can be. */
    private static OrphanTree chain(int last) {
        OrphanTree x = new OrphanTree();
        for (int i = 0; i < last; i++) {
            x.spawn(i, 1, 0, 0);
        }
        return x;
    }

    // 7 to 17: what there is.

    @Says("0 the processes that have come, 1 the running ones, 2 the zombies, 3 the gone ones, 4 the exits so far, 5 the adoptions"
        + " so far, 6 those by the root, 7 the replacements so far, 8 the duties that the root holds, 9 the changes that can be"
        + " undone, 10 the setting deep")
    static void count() {
        counts(new OrphanTree(), 1, 1, 0, 0, 0, 0, 0, 0, 8, 0, 20);
        OrphanTree x = tree("order;deep 1;root 9 1;process 0 2 0 0;process 1 1 0 1;process 2 0 0 0;duty 7 3;duty 0 2;");
        counts(x, 4, 4, 0, 0, 0, 0, 0, 0, 6, 0, 1);
        x.exit(3, 9);
        counts(x, 5, 4, 1, 0, 1, 0, 0, 1, 6, 1, 1);
        x.exit(2, 9);
        counts(x, 5, 3, 2, 0, 2, 1, 1, 1, 6, 2, 1);
        x.exit(1, 9);
        counts(x, 6, 3, 0, 3, 3, 1, 1, 2, 6, 3, 1);
        x.kill(0, 0);
        counts(x, 6, 1, 0, 5, 5, 1, 1, 2, 8, 4, 1);
    }

    @Says("0 its supervisor (-1 for the root; for a gone one the reader of its testament)")
    static void theReaderOfAGoneOne() {
        OrphanTree x = tree(CHAIN);
        is(x.process(0, 0), -1);
        x.exit(3, 1);
        is(x.process(3, 0), 2);
        x.read(2);
        is(x.process(3, 0), 2);
        x.exit(2, 1);
        x.exit(1, 1);
        is(x.process(3, 0), 2);
        is(x.process(2, 0), 0);
        is(x.process(1, 0), 0);
    }

    @Says("2 its room (0 if it is not running), 3 its running children, 4 its zombie children, 5 its state (0 running, 1 zombie, 2"
        + " gone)")
    static void childrenAndState() {
        OrphanTree x = tree(CHAIN);
        x.exit(4, 0);
        properties(x, 1, 0, 3, 2, 1, 1, 0);
        properties(x, 4, 1, 0, 0, 0, 0, 1);
        x.exit(2, 0);
        properties(x, 1, 0, 3, 2, 1, 2, 0);
        properties(x, 2, 1, 2, 0, 0, 0, 1);
        x.read(1);
        properties(x, 4, 1, 0, 0, 0, 0, 2);
        x.readAll(1);
        properties(x, 2, 1, 2, 0, 0, 0, 2);
        properties(x, 1, 0, 3, 2, 1, 0, 0);
    }

    @Says("8 its heir (-1 without one), 9 its duties as a bit mask, 10 its exit code (-1 if it is running), 11 the groups that it"
        + " refuses as a bit mask, 12 how often it was adopted, 13 the process that replaced it (-1 without one), 14 the duties that"
        + " it leaves by wills, as a bit mask")
    static void masks() {
        StringBuilder text = new StringBuilder("root 9 1;process 0 1 0 0;heir 1 0;");
        for (int i = 0; i < 10; i++) {
            text.append("refuse 1 ").append(i).append(';');
        }
        for (int i = 0; i < 8; i++) {
            text.append("will 1 ").append(i).append(" 0;duty ").append(i).append(" 1;");
        }
        OrphanTree x = tree(text.toString());
        properties(x, 1, 0, 1, 1, 0, 0, 0, 0, 0, 0, 255, -1, 1023, 0, -1, 255);
        x.exit(1, 1);
        properties(x, 1, 0, 1, 0, 0, 0, 2, 0, 0, 0, 0, 1, 1023, 0, 2, 255);
        properties(x, 2, 0, 1, 1, 0, 0, 0, 0, 0, -1, 255, -1, 0, 0, -1, 0);
        x.exit(2, 0);
        properties(x, 2, 0, 1, 0, 0, 0, 2, 0, 0, -1, 0, 0, 0, 0, -1, 0);
    }

    @Says("0 near, 1 group, 2 room, 3 kin, 4 old; -1 if there is no such rule")
    static void rule() {
        OrphanTree x = tree("order old near;");
        int[] due = {-1, 4, 0, -1, -1, -1, -1};
        for (int index = -1; index < 6; index++) {
            is(x.rule(index), due[index + 1]);
        }
        is(x.rule(Integer.MIN_VALUE), -1);
        is(x.rule(Integer.MAX_VALUE), -1);
    }

    @Says("Returns the number, 0 for the root")
    static void depth() {
        OrphanTree x = chain(39);
        is(x.depth(0), 0);
        is(x.depth(1), 1);
        is(x.depth(39), 39);
    }

    @Says("Returns true if process is above other, false also if one of both is gone or both are the same")
    static void isAbove() {
        OrphanTree x = tree(CHAIN);
        is(x.isAbove(0, 3), true);
        is(x.isAbove(2, 3), true);
        is(x.isAbove(3, 2), false);
        is(x.isAbove(0, 0), false);
        is(x.isAbove(3, 3), false);
        is(x.isAbove(4, 3), false);
        x.exit(3, 0);
        is(x.isAbove(0, 3), true);
        is(x.isAbove(3, 3), false);
        x.read(2);
        is(x.isAbove(2, 3), false);
        is(x.isAbove(0, 3), false);
        is(x.isAbove(3, 0), false);
        is(x.isAbove(3, 3), false);
        x.exit(2, 0);
        x.read(1);
        is(x.isAbove(2, 3), false);
    }

    @Says("Returns number of the process; the process itself if both are the same")
    static void meet() {
        OrphanTree x = tree(CHAIN);
        is(x.meet(0, 0), 0);
        is(x.meet(3, 3), 3);
        is(x.meet(3, 4), 1);
        is(x.meet(2, 3), 2);
        is(x.meet(3, 2), 2);
        is(x.meet(0, 3), 0);
        x.exit(4, 0);
        is(x.meet(4, 4), 4);
        is(x.meet(4, 3), 1);
        is(x.meet(1, 4), 1);
    }

    @Says("Returns the number, 0 if it is not running")
    static void below() {
        OrphanTree x = tree(CHAIN);
        is(x.below(0), 4);
        is(x.below(4), 0);
        x.exit(3, 0);
        is(x.below(2), 0);
        is(x.below(3), 0);
        is(x.below(0), 3);
        x.read(2);
        is(x.below(3), 0);
        is(chain(39).below(0), 39);
    }

    @Says("the root first; behind each process its running children, by their numbers, each with all below it")
    static void walked() {
        OrphanTree x = tree("process 0 1 0 0;process 0 3 0 0;process 2 1 0 0;process 2 0 0 0;process 0 1 0 0;");
        x.move(1, 3);
        int[] due = {0, 2, 3, 1, 4, 5};
        for (int i = 0; i < due.length; i++) {
            is(x.walked(i), due[i]);
        }
        fails(ELEMENT, () -> x.walked(6));
        x.exit(1, 0);
        is(x.walked(3), 4);
        fails(ELEMENT, () -> x.walked(5));
        OrphanTree alone = new OrphanTree();
        is(alone.walked(0), 0);
        fails(ELEMENT, () -> alone.walked(1));
        OrphanTree longest = chain(39);
        is(longest.walked(39), 39);
        fails(ELEMENT, () -> longest.walked(40));
    }

    @Says("Counts the running processes with so many processes above them")
    static void atDepth() {
        OrphanTree x = tree(CHAIN);
        int[] due = {0, 1, 1, 2, 1, 0, 0};
        for (int depth = -1; depth < 6; depth++) {
            is(x.atDepth(depth), due[depth + 1]);
        }
        is(x.atDepth(Integer.MIN_VALUE), 0);
        is(x.atDepth(Integer.MAX_VALUE), 0);
        x.exit(4, 0);
        is(x.atDepth(2), 1);
        is(chain(39).atDepth(39), 1);
        is(chain(39).atDepth(40), 0);
    }

    @Says("Returns the greatest number of processes that are above a running process")
    static void height() {
        is(new OrphanTree().height(), 0);
        is(chain(39).height(), 39);
        OrphanTree x = tree(CHAIN);
        is(x.height(), 3);
        x.exit(3, 0);
        is(x.height(), 2);
        x.prune(0, 0);
        is(x.height(), 0);
    }

    // 18 to 28: changes.

    @Says("Adds a running process. This is a change")
    static void spawn() {
        OrphanTree x = tree("process 0 1 0 0;refuse 1 9;");
        is(x.spawn(1, 0, 9, 0), 2);
        fails(STATE, () -> x.spawn(1, 0, 0, 0));
        is(x.setCapacity(1, 2), 1);
        is(x.spawn(1, 0, 0, 0), 3);
        fails(STATE, () -> x.spawn(1, 0, 0, 0));
        is(x.count(5), 0);
        is(x.count(9), 3);
        OrphanTree root = tree("root 1 0;");
        is(root.spawn(0, 9, 9, 9), 1);
        fails(STATE, () -> root.spawn(0, 0, 0, 0));
        is(root.spawn(1, 0, 0, 0), 2);
    }

    @Says("Returns how many orphans the root adopts")
    static void exit() {
        OrphanTree x = tree("order old;process 0 1 0 0;process 0 3 0 0;process 2 0 0 0;process 2 0 0 0;process 2 0 0 0;");
        is(x.exit(3, 0), 0);
        is(x.exit(2, 0), 1);
        supervisors(x, -1, 0, 0, 0, 1, 0);
        is(x.exit(1, 0), 1);
        is(x.count(6), 2);
    }

    @Says("Returns how many processes exit")
    static void kill() {
        OrphanTree x = tree("root 9 1;process 0 0 9 0;process 0 0 9 0;process 0 0 0 0;");
        is(x.kill(8, 0), 0);
        is(x.kill(9, 1), 2);
        is(x.count(1), 3);
        is(x.kill(9, 0), 1);
        is(x.kill(9, 0), 0);
        is(x.kill(0, 255), 1);
        is(x.kill(0, 255), 0);
        is(x.count(9), 6);
        is(new OrphanTree().kill(0, 0), 0);
    }

    @Says("Returns 1000 * the number of the zombie + its exit code")
    static void read() {
        OrphanTree x = tree("process 0 9 0 0;");
        fillUp(x, 38);
        x.spawn(1, 0, 0, 0);
        x.spawn(1, 0, 0, 0);
        x.exit(39, 0);
        x.exit(38, 255);
        is(x.read(1), 39000);
        is(x.read(1), 38255);
        fails(ELEMENT, () -> x.read(1));
    }

    @Says("Returns how many children it loses")
    static void refuse() {
        OrphanTree x = tree("order old;process 0 4 0 0;process 1 0 9 0;process 1 0 0 0;process 1 0 9 0;process 0 1 0 0;");
        is(x.refuse(1, 8), 0);
        is(x.refuse(1, 9), 2);
        supervisors(x, -1, 0, 5, 1, 0, 0);
        counts(x, 6, 6, 0, 0, 0, 2, 1);
        is(x.refuse(1, 9), 0);
        is(x.refuse(1, 0), 1);
        is(x.process(1, 11), 256 | 512 | 1);
        is(x.count(9), 4);
    }

    @Says("its running children of this group are adopted (see Adoption), by their numbers")
    static void refuseLeavesZombies() {
        OrphanTree x = tree("order old;process 0 4 0 0;process 1 0 3 0;process 1 0 3 0;");
        x.exit(2, 5);
        is(x.refuse(1, 3), 1);
        is(x.process(2, 0), 1);
        is(x.process(2, 12), 0);
        is(x.process(3, 0), 0);
    }

    @Says("Returns whether it refused it before")
    static void accept() {
        OrphanTree x = tree("process 0 0 0 0;refuse 1 0;refuse 1 9;");
        is(x.accept(1, 1), false);
        is(x.accept(1, 0), true);
        is(x.accept(1, 0), false);
        is(x.accept(1, 9), true);
        is(x.process(1, 11), 0);
        is(x.accept(0, 0), false);
        is(x.count(9), 5);
    }

    @Says("Gives a process another supervisor; this is no adoption")
    static void move() {
        OrphanTree x = tree("order;deep 1;" + CHAIN + "process 0 1 9 0;refuse 5 3;");
        is(x.move(4, 5), 1);
        fails(STATE, () -> x.move(2, 5));
        x.setCapacity(5, 2);
        fails(STATE, () -> x.move(3, 5));
        is(x.accept(5, 3), true);
        is(x.move(3, 5), 2);
        is(x.process(3, 12), 0);
        is(x.count(5), 0);
        fails(STATE, () -> x.move(3, 5));
        x.setCapacity(5, 3);
        is(x.move(3, 5), 5);
        is(x.process(5, 3), 2);
        is(x.move(3, 0), 5);
        is(x.move(5, 1), 0);
        is(shape(x), "0(1(2 5(4)) 3)");
    }

    @Says("Returns the capacity before")
    static void setCapacity() {
        OrphanTree x = tree(CHAIN);
        is(x.setCapacity(1, 0), 3);
        is(x.setCapacity(1, 9), 0);
        is(x.setCapacity(0, 0), 9);
        is(x.process(1, 2), 7);
        is(x.process(0, 2), 0);
        is(x.setCapacity(1, 1), 9);
        is(x.process(1, 3), 2);
    }

    @Says("0 to 9; it may be less than the number of its running children")
    static void capacityBelowTheChildren() {
        OrphanTree x = tree(CHAIN);
        for (int capacity = 2; capacity >= 0; capacity--) {
            x.setCapacity(1, capacity);
            is(x.process(1, 1), capacity);
            is(x.process(1, 2), 0);
            is(x.process(1, 3), 2);
            fails(STATE, () -> x.spawn(1, 0, 0, 0));
        }
        x.exit(4, 0);
        is(x.process(1, 2), 0);
        x.setCapacity(1, 1);
        fails(STATE, () -> x.spawn(1, 0, 0, 0));
        x.setCapacity(1, 2);
        is(x.spawn(1, 0, 0, 0), 5);
    }

    @Says("Returns the budget before")
    static void setBudget() {
        OrphanTree x = tree("root 9 3;process 0 0 0 9;");
        is(x.setBudget(1, 0), 9);
        is(x.setBudget(1, 9), 0);
        is(x.setBudget(0, 0), 3);
        is(x.process(1, 7), 9);
    }

    @Says("Returns the heir before, -1 without one")
    static void setHeir() {
        OrphanTree x = tree(CHAIN + "heir 2 4;");
        is(x.setHeir(1, 0), -1);
        is(x.setHeir(1, -1), 0);
        is(x.setHeir(1, -1), -1);
        is(x.setHeir(2, 1), 4);
        is(x.setHeir(2, 3), 1);
        is(x.process(2, 8), 3);
    }

    @Says("Returns the holder before")
    static void give() {
        OrphanTree x = tree(CHAIN + "duty 7 4;");
        is(x.give(0, 3), 0);
        is(x.give(0, 3), 3);
        is(x.give(7, 0), 4);
        is(x.process(3, 9), 1);
        is(x.count(8), 7);
    }

    // 29 to 43: questions.

    @Says("Finds the process that would adopt a process if its supervisor did not want it any more, as told under Adoption (the"
        + " supervisor itself is left aside)")
    static void adopter() {
        OrphanTree x = tree("order room;process 0 9 0 0;process 1 0 0 0;process 0 1 0 0;");
        is(x.adopter(2), 3);
        x.setCapacity(3, 0);
        is(x.adopter(2), 0);
        is(x.adopter(3), 1);
        is(x.adopter(1), 0);
        is(x.count(5), 0);
    }

    @Says("Finds the process to which the duties of a process for which it has no will would go if it exited with the exit code 0")
    static void heirNow() {
        OrphanTree x = tree("root 9 9;process 0 2 0 9;process 1 2 0 0;process 2 0 0 0;process 2 0 0 0;heir 2 1;will 2 0 4;will 2 7 4;");
        is(x.heirNow(2), 1);
        x.setHeir(2, -1);
        is(x.heirNow(2), 3);
        x.exit(3, 0);
        is(x.heirNow(2), 4);
        x.setHeir(2, 3);
        is(x.heirNow(2), 4);
        x.exit(4, 0);
        is(x.heirNow(2), 1);
        is(x.heirNow(1), 2);
    }

    @Says("Returns the number of orphans")
    static void wouldFall() {
        OrphanTree x = tree("order;root 9 1;process 0 3 1 0;process 1 0 0 0;process 1 0 0 0;process 1 0 0 0;");
        is(x.wouldFall(1, 0), 3);
        is(x.wouldFall(1, 1), 0);
        is(x.wouldFall(1, 255), 0);
        is(x.wouldFall(2, 0), 0);
        is(x.wouldFallBy(1, 0), 3);
        is(x.wouldFallBy(1, 255), 0);
        is(x.wouldFallBy(9, 0), 0);
        x.setCapacity(1, 2);
        is(x.wouldFall(1, 1), 1);
        is(x.exit(1, 1), 1);
    }

    @Says("Forecasts how many orphans the root would adopt if a group was killed")
    static void wouldFallBy() {
        OrphanTree x = tree("order;process 0 2 1 0;process 1 2 1 0;process 2 0 2 0;process 0 9 2 0;");
        is(x.exit(2, 0), 1);
        is(x.count(6), 1);
        is(x.wouldFallBy(1, 0), 0);
        is(x.undo(), 0);
        OrphanTree y = tree("order old;process 0 9 0 0;process 0 9 0 0;process 2 0 0 0;");
        is(y.exit(2, 0), 0);
        is(y.count(5), 1);
        is(y.wouldFallBy(0, 0), 1);
        is(y.wouldFallBy(1, 0), 0);
        is(x.wouldFallBy(1, 0), 2);
        is(x.wouldFallBy(0, 0), 0);
        is(x.wouldFallBy(2, 0), 0);
        is(x.kill(1, 0), 2);
        is(x.count(6), 2);
    }

    @Says("Returns the supervisor of process behind the exit (see process, what 0)")
    static void wouldHave() {
        OrphanTree x = tree("order near;" + CHAIN);
        is(x.wouldHave(0, 1, 0), -1);
        is(x.wouldHave(1, 1, 0), 0);
        is(x.wouldHave(2, 2, 9), 1);
        is(x.wouldHave(3, 2, 0), 1);
        x.exit(3, 0);
        is(x.wouldHave(3, 2, 0), 1);
        is(x.wouldHave(3, 4, 0), 2);
        x.read(2);
        is(x.wouldHave(3, 2, 0), 2);
    }

    @Says("Returns the supervisor of process behind the exit (see process, what 0)")
    static void wouldHaveWithAReplacement() {
        OrphanTree x = tree("order;root 9 1;process 0 1 0 0;process 1 0 0 0;");
        is(x.wouldHave(2, 1, 0), 0);
        is(x.wouldHave(2, 1, 1), 3);
        is(x.wouldHave(2, 1, 255), 3);
        fails(BOUNDS, () -> x.wouldHave(3, 1, 1));
    }

    @Says("Forecasts the height (see height) behind the exit of a process")
    static void wouldStand() {
        OrphanTree x = tree("order;root 9 1;process 0 1 0 0;process 1 1 0 0;process 2 0 0 0;");
        is(x.wouldStand(3, 0), 2);
        is(x.wouldStand(3, 1), 2);
        is(x.wouldStand(2, 0), 1);
        is(x.wouldStand(1, 0), 2);
        is(x.wouldStand(1, 1), 3);
        is(x.wouldStand(1, 255), 3);
        is(tree("process 0 0 0 0;").wouldStand(1, 0), 0);
        is(chain(39).wouldStand(39, 0), 38);
        is(x.height(), 3);
    }

    @Says("Finds the running process, the root left aside, whose exit with an exit code would give the root the most orphans")
    static void weakestWithReplacements() {
        OrphanTree x = tree("order;root 9 1;process 0 2 0 0;process 1 1 0 0;process 1 0 0 0;process 2 0 0 0;");
        is(x.weakest(0), 1);
        is(x.weakest(1), 2);
        is(x.weakest(255), 2);
        x.setBudget(1, 1);
        is(x.weakest(1), 1);
        x.setCapacity(2, 0);
        is(x.weakest(1), 2);
    }

    @Says("Returns number of the process, the smallest one on a tie; -1 if the root is alone")
    static void weakest() {
        OrphanTree x = tree("order;process 0 0 0 0;process 0 1 0 0;process 2 1 0 0;process 3 0 0 0;");
        is(x.weakest(0), 2);
        x.exit(4, 0);
        is(x.weakest(255), 2);
        x.exit(3, 0);
        is(x.weakest(0), 1);
        x.exit(1, 0);
        is(x.weakest(0), 2);
        x.exit(2, 0);
        is(x.weakest(0), -1);
        is(new OrphanTree().weakest(0), -1);
    }

    @Says("Returns number of the process, the smallest one on a tie; -1 if there is none with room")
    static void roomiest() {
        OrphanTree x = tree("process 0 2 0 0;process 0 2 0 0;process 0 3 0 0;refuse 3 0;refuse 3 9;refuse 1 9;");
        is(x.roomiest(1), 3);
        is(x.roomiest(0), 1);
        is(x.roomiest(9), 2);
        x.setCapacity(2, 0);
        is(x.roomiest(9), -1);
        x.setCapacity(2, 1);
        is(x.roomiest(9), 2);
        x.setCapacity(1, 1);
        x.spawn(2, 0, 9, 0);
        is(x.roomiest(9), -1);
        is(x.roomiest(0), 1);
        is(new OrphanTree().roomiest(0), -1);
    }

    @Says("Returns the rooms of all running processes together")
    static void allRoom() {
        OrphanTree x = tree(CHAIN);
        is(x.allRoom(), 8 + 1 + 1 + 1 + 0);
        x.setCapacity(1, 1);
        is(x.allRoom(), 8 + 0 + 1 + 1 + 0);
        x.exit(3, 0);
        is(x.allRoom(), 8 + 0 + 2 + 0);
        is(tree("root 0 0;").allRoom(), 0);
        is(new OrphanTree().allRoom(), 9);
    }

    @Says("Counts the running processes with more running children than their capacity")
    static void overfull() {
        OrphanTree x = tree(CHAIN);
        is(x.overfull(), 0);
        x.setCapacity(1, 2);
        is(x.overfull(), 0);
        x.setCapacity(1, 1);
        is(x.overfull(), 1);
        x.setCapacity(2, 0);
        is(x.overfull(), 2);
        x.setCapacity(0, 0);
        is(x.overfull(), 3);
        x.exit(4, 0);
        is(x.overfull(), 2);
    }

    @Says("Counts the running processes of a group")
    static void ofGroup() {
        OrphanTree x = tree("process 0 0 9 0;process 0 0 9 0;process 0 1 0 0;process 3 0 9 0;");
        is(x.ofGroup(0), 2);
        is(x.ofGroup(9), 3);
        is(x.ofGroup(1), 0);
        x.exit(4, 0);
        x.exit(1, 0);
        is(x.ofGroup(9), 1);
        is(new OrphanTree().ofGroup(0), 1);
    }

    @Says("Returns number of the zombie; -1 if it has no zombie children")
    static void nextTestament() {
        OrphanTree x = tree(CHAIN);
        is(x.nextTestament(1), -1);
        x.exit(4, 0);
        x.exit(3, 0);
        x.exit(2, 0);
        is(x.nextTestament(1), 4);
        x.read(1);
        is(x.nextTestament(1), 3);
        x.read(1);
        is(x.nextTestament(1), 2);
        x.read(1);
        is(x.nextTestament(1), -1);
        is(x.nextTestament(4), -1);
        is(x.nextTestament(0), -1);
    }

    @Says("Returns a process that has exited, in the order of the exits")
    static void exited() {
        OrphanTree x = tree(CHAIN);
        fails(ELEMENT, () -> x.exited(0));
        x.exit(3, 0);
        x.exit(2, 0);
        is(x.exited(0), 3);
        is(x.exited(1), 2);
        fails(ELEMENT, () -> x.exited(2));
        is(x.undo(), 1);
        fails(ELEMENT, () -> x.exited(1));
        x.exit(4, 0);
        is(x.exited(1), 4);
        OrphanTree all = new OrphanTree();
        fillUp(all, 40);
        is(all.exited(38), 39);
        fails(ELEMENT, () -> all.exited(39));
    }

    @Says("their sum divided by their number, both converted to double")
    static void meanDepth() {
        is(new OrphanTree().meanDepth(), 0.0);
        is(chain(39).meanDepth(), 780.0 / 40.0);
        OrphanTree x = tree("process 0 2 0 0;process 1 0 0 0;process 1 0 0 0;");
        is(x.meanDepth(), 5.0 / 4.0);
        x.exit(3, 0);
        is(x.meanDepth(), 3.0 / 3.0);
        x.spawn(0, 0, 0, 0);
        x.spawn(0, 0, 0, 0);
        x.spawn(0, 0, 0, 0);
        is(x.meanDepth(), 6.0 / 6.0);
        x.exit(2, 0);
        is(x.meanDepth(), 4.0 / 5.0);
    }

    @Says("Returns the share; 0 if there were none")
    static void rootShare() {
        OrphanTree x = tree("order old;process 0 3 0 0;process 1 0 0 0;process 1 0 0 0;process 1 0 0 0;process 0 2 0 0;");
        is(x.rootShare(), 0.0f);
        x.exit(1, 0);
        is(x.rootShare(), 1.0f / 3.0f);
        OrphanTree one = tree("order;process 0 1 0 0;process 1 0 0 0;");
        one.exit(1, 0);
        is(one.rootShare(), 1.0f);
        OrphanTree none = tree("order old;process 0 1 0 0;process 1 0 0 0;process 0 1 0 0;");
        none.exit(1, 0);
        is(none.rootShare(), 0.0f);
        is(none.count(5), 1);
    }

    // 44 to 60.

    @Says("one by one, each time the one with the greatest depth, on a tie the greatest number, with the same exit code (those that"
        + " come as replacements exit, too, as long as there are running processes below it)")
    static void prune() {
        OrphanTree x = tree("process 0 3 1 2;process 1 2 2 1;process 2 1 3 0;process 1 0 4 0;process 0 0 0 0;");
        is(x.prune(1, 3), 6);
        int[] order = {3, 6, 4, 7, 8, 2};
        for (int i = 0; i < order.length; i++) {
            is(x.exited(i), order[i]);
        }
        for (int p : order) {
            is(x.process(p, 10), 3);
        }
        is(shape(x), "0(1 5)");
        is(x.process(1, 7), 0);
        is(x.prune(5, 3), 0);
        is(x.count(9), 2);
        OrphanTree all = tree("root 9 9;process 0 0 0 9;process 0 0 0 9;");
        is(all.prune(0, 1), 11);
        is(all.count(1), 1);
        OrphanTree full = tree("root 9 9;");
        fillUp(full, 37);
        full.spawn(0, 0, 0, 0);
        is(full.prune(0, 1), 3);
        is(full.process(0, 7), 7);
        is(full.count(0), 40);
    }

    @Says("Lets all processes below a process exit, the process itself not")
    static void pruneLeavesTheProcess() {
        OrphanTree x = tree(CHAIN);
        is(x.prune(2, 0), 1);
        is(shape(x), "0(1(2 4))");
        is(x.process(3, 0), 2);
        is(x.prune(1, 255), 2);
        is(printed(x, 1, 4), "3:0,4:255,2:255");
        is(printed(x, 2, 2), "2");
        is(x.prune(0, 0), 1);
        is(x.process(0, 5), 0);
        is(x.prune(0, 0), 0);
        is(x.count(9), 4);
        is(chain(39).prune(0, 9), 39);
    }

    @Says("Returns how many running processes have another depth then")
    static void exchange() {
        OrphanTree x = tree(CHAIN + "process 0 1 0 0;process 5 0 0 0;");
        is(x.exchange(1, 5), 0);
        is(x.exchange(2, 6), 0);
        is(shape(x), "0(1(4 6) 5(2(3)))");
        is(x.exchange(3, 4), 2);
        is(shape(x), "0(1(3 6) 5(2(4)))");
        x.exit(4, 0);
        is(x.exchange(1, 2), 4);
        is(shape(x), "0(2 5(1(3 6)))");
        is(x.process(4, 0), 2);
        is(x.count(5), 0);
    }

    @Says("each one gets the place of the other one under its supervisor, with all below it")
    static void exchangeWithAllBelow() {
        OrphanTree x = tree("process 0 2 0 0;process 1 0 0 0;process 1 1 0 0;process 3 0 0 0;process 0 1 0 0;process 5 1 0 0;"
            + "process 6 0 0 0;");
        is(shape(x), "0(1(2 3(4)) 5(6(7)))");
        is(x.exchange(3, 5), 5);
        is(shape(x), "0(1(2 5(6(7))) 3(4))");
        is(x.exchange(6, 4), 3);
        is(shape(x), "0(1(2 5(4)) 3(6(7)))");
        x.exit(7, 0);
        is(x.exchange(6, 2), 0);
        is(x.process(7, 0), 6);
        is(x.depth(7), 3);
    }

    @Says("the room and refusals do not matter")
    static void exchangeWithoutRoom() {
        OrphanTree x = tree("deep 1;process 0 1 0 0;process 0 1 0 0;process 1 1 1 0;process 2 0 2 0;refuse 1 2;refuse 2 1;");
        x.setCapacity(1, 0);
        x.setCapacity(2, 0);
        is(x.exchange(3, 4), 0);
        supervisors(x, -1, 0, 0, 2, 1);
        is(x.process(1, 3), 1);
        is(x.process(2, 3), 1);
        is(x.count(5), 0);
    }

    @Says("Returns the sum of the exit codes that it reads")
    static void readAll() {
        OrphanTree x = tree("process 0 9 0 0;");
        is(x.readAll(1), 0);
        is(x.readAll(0), 0);
        for (int i = 2; i < 11; i++) {
            x.spawn(1, 0, 0, 0);
            x.exit(i, 255);
        }
        is(x.readAll(1), 9 * 255);
        is(x.readAll(1), 0);
        is(x.count(3), 9);
    }

    @Says("This is a change, also if there are none")
    static void readingNothingIsAChange() {
        OrphanTree x = tree(CHAIN);
        is(x.readAll(1), 0);
        is(x.count(9), 1);
        is(x.readAll(0), 0);
        is(x.count(9), 2);
        is(x.undo(), 1);
    }

    @Says("Returns the number of zombies; 0 if it is not running")
    static void testamentsBelow() {
        OrphanTree x = tree(CHAIN);
        is(x.testamentsBelow(0), 0);
        x.exit(3, 0);
        x.exit(4, 0);
        is(x.testamentsBelow(0), 2);
        is(x.testamentsBelow(2), 1);
        is(x.testamentsBelow(3), 0);
        x.exit(2, 0);
        is(x.testamentsBelow(1), 3);
        is(x.testamentsBelow(2), 0);
        x.exit(1, 0);
        is(x.testamentsBelow(0), 0);
        is(x.testamentsBelow(1), 0);
    }

    @Says("Returns the rooms of all running processes below a process together, its own left aside")
    static void roomBelow() {
        OrphanTree x = tree(CHAIN);
        is(x.roomBelow(0), 1 + 1 + 1);
        is(x.roomBelow(1), 1 + 1);
        is(x.roomBelow(3), 0);
        x.setCapacity(2, 0);
        is(x.roomBelow(1), 0 + 1);
        x.exit(3, 0);
        is(x.roomBelow(1), 0);
        is(x.roomBelow(3), 0);
    }

    @Says("Returns number of the process, the smallest one on a tie; -1 if none was adopted")
    static void mostAdopted() {
        OrphanTree x = tree("order;process 0 2 0 0;process 1 0 1 0;process 1 0 2 0;");
        is(x.mostAdopted(), -1);
        x.refuse(1, 2);
        is(x.mostAdopted(), 3);
        x.refuse(1, 1);
        is(x.mostAdopted(), 2);
        x.accept(1, 2);
        x.move(3, 1);
        x.refuse(1, 2);
        is(x.mostAdopted(), 3);
        x.exit(3, 0);
        is(x.mostAdopted(), 2);
    }

    @Says("Counts the running processes that could adopt a process as told under Adoption, the root left aside; its supervisor counts,"
        + " too, if it could")
    static void adopters() {
        OrphanTree x = tree("process 0 1 0 0;process 1 9 3 0;process 2 9 0 0;process 0 9 0 0;");
        is(x.adopters(2), 1);
        x.setCapacity(1, 2);
        is(x.adopters(2), 2);
        x.refuse(4, 3);
        is(x.adopters(2), 1);
        x.setCapacity(1, 1);
        is(x.adopters(2), 0);
        is(tree("deep 1;process 0 9 0 0;process 0 9 0 0;process 1 9 0 0;").adopters(3), 0);
        is(tree("deep 2;process 0 9 0 0;process 0 9 0 0;process 1 9 0 0;").adopters(3), 2);
    }

    @Says("Returns 1 if with 1 it gives fewer ones, otherwise 0")
    static void betterCode() {
        OrphanTree x = tree("order;root 9 1;process 0 1 0 0;process 1 0 0 0;process 0 0 0 0;");
        is(x.betterCode(1), 1);
        is(x.betterCode(3), 0);
        x.setCapacity(1, 0);
        is(x.betterCode(1), 0);
        x.setCapacity(1, 1);
        x.setBudget(0, 0);
        is(x.betterCode(1), 0);
    }

    @Says("Forecasts how many processes would be running behind the kill of a group")
    static void wouldRun() {
        OrphanTree x = tree("root 9 1;process 0 0 9 0;process 0 0 9 0;process 0 0 0 0;");
        is(x.wouldRun(9, 0), 2);
        is(x.wouldRun(9, 255), 3);
        is(x.wouldRun(0, 0), 3);
        is(x.wouldRun(8, 0), 4);
        is(x.count(1), 4);
    }

    @Says("Returns the share; 0.0 without exits")
    static void readShare() {
        OrphanTree x = tree(CHAIN);
        is(x.readShare(), 0.0);
        x.exit(4, 0);
        x.exit(3, 0);
        x.exit(2, 0);
        is(x.readShare(), 0.0);
        x.read(1);
        is(x.readShare(), 1.0 / 3.0);
        x.read(1);
        is(x.readShare(), 2.0 / 3.0);
        x.exit(1, 0);
        is(x.readShare(), 1.0);
    }

    @Says("Returns the fewest steps, 0 if both are the same")
    static void apart() {
        OrphanTree x = tree(CHAIN);
        is(x.apart(0, 0), 0);
        is(x.apart(3, 3), 0);
        is(x.apart(3, 4), 3);
        is(x.apart(4, 3), 3);
        is(x.apart(0, 3), 3);
        x.exit(4, 0);
        is(x.apart(4, 4), 0);
        is(x.apart(4, 1), 1);
        is(x.apart(4, 3), 3);
        is(chain(39).apart(39, 0), 39);
        OrphanTree fork = new OrphanTree();
        for (int i = 1; i < 40; i++) {
            fork.spawn(Math.max(0, i - 2), 1, 0, 0);
        }
        is(fork.apart(38, 39), 39);
    }

    @Says("Returns how many are given away")
    static void relieve() {
        OrphanTree x = tree("order old;process 0 3 0 0;process 1 0 0 0;process 1 0 0 0;process 1 0 0 0;process 0 1 0 0;");
        is(x.relieve(1), 0);
        x.setCapacity(1, 2);
        is(x.relieve(1), 1);
        supervisors(x, -1, 0, 1, 1, 5, 0);
        x.setCapacity(1, 0);
        is(x.relieve(1), 2);
        supervisors(x, -1, 0, 0, 0, 5, 0);
        counts(x, 6, 6, 0, 0, 0, 3, 2);
        is(x.relieve(1), 0);
        is(x.count(9), 6);
    }

    @Says("Lets a process give away running children as long as it has more than its capacity: each time the one with the greatest"
        + " number is adopted (see Adoption; the process itself is left aside)")
    static void relieveGivesTheGreatestNumber() {
        OrphanTree x = tree("order room;process 0 3 0 0;process 1 1 0 0;process 1 0 0 0;process 1 0 0 0;");
        x.setCapacity(1, 1);
        is(x.relieve(1), 2);
        supervisors(x, -1, 0, 1, 0, 2);
        is(x.process(1, 2), 0);
        OrphanTree last = tree("process 0 9 0 0;");
        fillUp(last, 38);
        last.spawn(1, 0, 0, 0);
        last.spawn(1, 0, 0, 0);
        last.setCapacity(1, 1);
        is(last.relieve(1), 1);
        is(last.process(39, 0), 0);
        is(last.process(38, 0), 1);
        last.setCapacity(1, 0);
        is(last.relieve(1), 1);
        is(last.process(38, 0), 0);
    }

    @Says("This is a change, also if none is given away")
    static void relievingOfNoneIsAChange() {
        OrphanTree x = tree(CHAIN);
        x.setCapacity(1, 2);
        is(x.relieve(1), 0);
        is(x.relieve(3), 0);
        is(x.count(9), 3);
        is(x.undo(), 2);
        is(shape(x), "0(1(2(3) 4))");
    }

    @Says("Forecasts the holder of a duty behind the exit of a process")
    static void wouldHold() {
        OrphanTree x = tree("root 9 1;process 0 1 0 0;process 1 0 0 0;duty 7 1;duty 0 1;will 1 0 0;");
        is(x.wouldHold(7, 1, 0), 2);
        is(x.wouldHold(7, 1, 255), 3);
        is(x.wouldHold(0, 1, 0), 0);
        is(x.wouldHold(0, 2, 0), 1);
        is(x.wouldHold(1, 1, 1), 0);
        is(x.holder(7), 1);
    }

    @Says("Returns the number of exits, 0 if the root holds it now")
    static void dutyLife() {
        OrphanTree x = tree("root 9 9;process 0 1 0 9;process 1 1 0 0;process 2 0 0 0;duty 1 3;duty 2 1;duty 3 1;will 1 3 0;");
        is(x.dutyLife(0), 0);
        is(x.dutyLife(1), 3);
        is(x.dutyLife(2), 3);
        is(x.dutyLife(3), 1);
        OrphanTree longest = chain(39);
        longest.give(7, 39);
        is(longest.dutyLife(7), 39);
        longest.give(7, 1);
        is(longest.dutyLife(7), 39);
    }

    @Says("Returns number of the child, the smallest one on a tie; -1 without running children")
    static void heaviest() {
        OrphanTree x = tree("process 0 2 0 0;process 0 2 0 0;process 1 0 0 0;process 2 0 0 0;");
        is(x.heaviest(0), 1);
        x.spawn(2, 0, 0, 0);
        is(x.heaviest(0), 2);
        is(x.heaviest(2), 4);
        is(x.heaviest(3), -1);
        x.exit(3, 0);
        is(x.heaviest(1), -1);
        is(x.heaviest(3), -1);
        is(new OrphanTree().heaviest(0), -1);
    }

    @Says("Returns a bit mask of these groups, its own only if one of these is of it; 0 if it is not running")
    static void groupsBelow() {
        OrphanTree x = tree("process 0 2 9 0;process 1 1 0 0;process 2 0 9 0;");
        is(x.groupsBelow(0), 512 | 1);
        is(x.groupsBelow(1), 512 | 1);
        is(x.groupsBelow(2), 512);
        is(x.groupsBelow(3), 0);
        x.exit(3, 0);
        is(x.groupsBelow(1), 1);
        is(x.groupsBelow(2), 0);
        is(x.groupsBelow(3), 0);
        is(new OrphanTree().groupsBelow(0), 0);
    }

    @Says("Counts the running children of a process that are of another group than it")
    static void strangers() {
        OrphanTree x = tree("process 0 3 9 0;process 1 1 9 0;process 1 1 0 0;process 1 0 8 0;process 3 0 0 0;process 2 0 1 0;");
        is(x.strangers(0), 1);
        is(x.strangers(1), 2);
        is(x.strangers(2), 1);
        is(x.strangers(3), 0);
        x.exit(4, 0);
        is(x.strangers(1), 1);
        is(x.strangers(4), 0);
    }

    // 61 to 65: output, undo and the saved state.

    @Says("Where there is none (1, 3, 4), a minus sign is written")
    static void printNothing() {
        OrphanTree x = tree("process 0 1 0 0;process 1 0 0 0;");
        x.exit(2, 0);
        for (int p = 1; p <= 2; p++) {
            is(printed(x, p, 1), "-");
            is(printed(x, p, 3), "-");
            is(printed(x, p == 1 ? 0 : 2, 4), "-");
        }
        is(printed(x, 0, 0), "0");
        is(printed(x, 0, 3), "01234567");
        is(printed(x, 2, 2), "2");
        is(printed(x, 2, 0), "0/1/2");
        is(printed(x, 1, 4), "2:0");
    }

    @Says("0 its path, the numbers from the root down to it, with a slash between two of them; 1 its running children, by their"
        + " numbers, with a comma between two of them; 2 the tree from it on: its number, and behind it, if it has running children,"
        + " the sign (, the trees from these on, by their numbers, with a space between two of them, and the sign )")
    static void printPathChildrenAndTree() {
        OrphanTree x = tree("process 0 9 0 0;process 1 9 0 0;process 0 9 0 0;process 1 9 0 0;");
        for (int i = 5; i < 13; i++) {
            x.spawn(i < 11 ? 1 : 4, 0, 0, 0);
        }
        is(printed(x, 1, 1), "2,4,5,6,7,8,9,10");
        is(printed(x, 12, 0), "0/1/4/12");
        is(printed(x, 0, 2), "0(1(2 4(11 12) 5 6 7 8 9 10) 3)");
        is(printed(x, 4, 2), "4(11 12)");
        is(printed(x, 12, 2), "12");
    }

    @Says("3 its duties, by their numbers, without anything between them; 4 its zombie children, in the order in which they exited,"
        + " each as its number, a colon and its exit code, with a comma between two of them")
    static void printDutiesAndZombies() {
        OrphanTree x = tree("process 0 9 0 0;process 1 9 0 0;process 1 0 0 0;duty 7 1;duty 0 1;duty 3 1;");
        is(printed(x, 1, 3), "037");
        fillUp(x, 10);
        is(x.spawn(1, 0, 0, 0), 10);
        x.exit(10, 255);
        x.exit(3, 9);
        x.exit(2, 10);
        is(printed(x, 1, 4), "10:255,3:9,2:10");
        x.read(1);
        is(printed(x, 1, 4), "3:9,2:10");
        x.readAll(1);
        for (int code : new int[] {1, 99, 100, 101, 199, 200, 255}) {
            int p = x.spawn(1, 0, 0, 0);
            x.exit(p, code);
            is(printed(x, 1, 4), p + ":" + code);
            is(x.read(1), 1000 * p + code);
        }
    }

    @Says("Writes something of a process to the output, in place of what it had")
    static void printReplacesTheOutput() {
        OrphanTree x = chain(12);
        int longer = x.print(12, 0);
        is(longer, 28);
        is(x.outputByte(27), (int) '2');
        is(x.print(0, 0), 1);
        is(x.outputByte(0), (int) '0');
        is(x.outputByte(1), -1);
        is(x.outputByte(27), -1);
    }

    @Says("Returns the byte; -1 if there is no such byte")
    static void outputByte() {
        OrphanTree x = chain(12);
        is(x.outputByte(0), -1);
        is(x.print(12, 0), 28);
        is(x.outputByte(-1), -1);
        is(x.outputByte(0), (int) '0');
        is(x.outputByte(1), (int) '/');
        is(x.outputByte(27), (int) '2');
        is(x.outputByte(28), -1);
        is(x.outputByte(Integer.MIN_VALUE), -1);
        is(x.outputByte(Integer.MAX_VALUE), -1);
    }

    @Says("Returns the number of changes that can still be undone; -1 if there was none")
    static void undo() {
        OrphanTree x = tree(CHAIN);
        is(x.undo(), -1);
        x.exit(4, 0);
        x.exit(3, 0);
        is(x.undo(), 1);
        is(x.process(3, 5), 0);
        is(x.process(4, 5), 1);
        x.exit(2, 0);
        is(x.undo(), 1);
        is(x.process(2, 5), 0);
        is(x.undo(), 0);
        is(x.undo(), -1);
        counts(x, 5, 5, 0, 0, 0, 0, 0, 0, 8, 0, 20);
        OrphanTree y = tree("order old;root 9 1;deep 3;process 0 1 0 0;process 0 2 0 0;process 2 0 0 0;process 2 0 0 0;duty 1 2;");
        is(y.exit(2, 0), 1);
        is(y.exit(1, 1), 0);
        counts(y, 6, 4, 0, 2, 2, 3, 1, 1, 7, 2, 3);
        y.kill(0, 1);
        is(y.undo(), 2);
        counts(y, 6, 4, 0, 2, 2, 3, 1, 1, 7, 2, 3);
        is(y.undo(), 1);
        counts(y, 5, 4, 0, 1, 1, 2, 1, 0, 7, 1, 3);
        is(y.undo(), 0);
        counts(y, 5, 5, 0, 0, 0, 0, 0, 0, 7, 0, 3);
    }

    @Says("Undoes the latest change that was not undone")
    static void undoAroundTheRing() {
        OrphanTree x = tree("process 0 0 0 0;");
        for (int round = 0; round < 4; round++) {
            for (int i = 0; i < 7; i++) {
                x.setCapacity(1, i);
            }
            for (int i = 6; i >= 4; i--) {
                is(x.process(1, 1), i);
                x.undo();
            }
            is(x.process(1, 1), 3);
        }
        is(x.count(9), 7);
        for (int left = 6; left >= 0; left--) {
            is(x.undo(), left);
        }
        is(x.undo(), -1);
        is(x.process(1, 1), 0);
    }

    @Says("Saves everything but the input buffer, the reported error, the output and the changes that can be undone, in place of an"
        + " earlier saved state")
    static void saveState() {
        OrphanTree x = tree(CHAIN);
        is(x.saveState(), 5);
        x.exit(4, 0);
        is(x.saveState(), 4);
        is(x.count(9), 1);
        x.exit(3, 0);
        write(x, "deep 3;x");
        x.print(1, 4);
        is(x.restoreState(), 4);
        is(x.process(3, 5), 0);
        is(x.process(4, 5), 1);
        is(output(x), "4:0");
        is(x.truncateInput(9), false);
        is(x.truncateInput(8), true);
        is(x.loadTree(), -1);
        x.saveState();
        x.restoreState();
        is(x.errorCode(), 1);
        is(x.errorOffset(), 7);
        is(new OrphanTree().saveState(), 1);
    }

    @Says("Saves everything but")
    static void theOrderOfTheExitsIsSaved() {
        OrphanTree x = tree(CHAIN);
        x.exit(4, 1);
        x.exit(3, 2);
        x.exit(2, 3);
        x.saveState();
        for (int i = 0; i < 3; i++) {
            x.undo();
        }
        x.exit(2, 0);
        x.exit(3, 0);
        x.exit(4, 0);
        x.restoreState();
        is(x.exited(0), 4);
        is(x.exited(2), 2);
        is(printed(x, 1, 4), "4:1,3:2,2:3");
        is(x.read(1), 4001);
    }

    @Says("Restores the saved state, which stays saved. Nothing can be undone then")
    static void restoreState() {
        OrphanTree x = tree(CHAIN + "duty 2 3;");
        x.setBudget(1, 1);
        x.saveState();
        is(x.restoreState(), 5);
        is(x.undo(), -1);
        for (int i = 0; i < 3; i++) {
            x.exit(3, 1);
            x.kill(4, 1);
            x.refuse(1, 2);
            is(x.count(9), 3);
            is(x.restoreState(), 5);
            is(x.count(9), 0);
            is(x.undo(), -1);
            is(shape(x), "0(1(2(3) 4))");
            is(x.process(1, 7), 1);
            is(x.process(1, 11), 0);
            is(x.holder(2), 3);
            counts(x, 5, 5, 0, 0, 0, 0, 0, 0, 7, 0, 20);
        }
        x.exit(4, 0);
        is(x.undo(), 0);
    }
}
