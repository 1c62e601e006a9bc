/** For each promise of the document the answers that are due, worked out by hand. */
public final class PromiseTest extends Checks {
    /** 0 over 1 and 5, 1 over 2 and 3, 3 over 4. */
    private static final String FAMILY = "process 0 2 1 0;process 1 1 1 0;process 1 3 2 1;process 3 0 2 0;"
        + "process 0 1 2 0;heir 2 3;duty 0 2;duty 1 4;";
    /** A chain 0, 1, 2, 3 and the childless 4 under 1. */
    private static final String CHAIN = "process 0 3 1 0;process 1 2 2 0;process 2 1 3 0;process 1 0 4 0;";

    private PromiseTest() {
    }

    public static void main(String[] args) throws ReflectiveOperationException {
        for (int promise = 1; promise <= 65; promise++) {
            subject = "promise " + promise;
            PromiseTest.class.getDeclaredMethod("promise" + promise).invoke(null);
        }
        tell("PromiseTest");
    }

    static void promise1() {
        OrphanTree x = new OrphanTree();
        int[] due = {1, 1, 0, 0, 0, 0, 0, 0, 8, 0, 20};
        for (int what = 0; what < due.length; what++) {
            is(x.count(what), due[what]);
        }
        int[] root = {-1, 9, 9, 0, 0, 0, 0, 0, -1, 255, -1, 0, 0, -1, 0};
        for (int what = 0; what < root.length; what++) {
            is(x.process(0, what), root[what]);
        }
        is(x.rule(0), 0);
        is(x.rule(1), 1);
        is(x.rule(2), 2);
        is(x.rule(3), -1);
        is(x.truncateInput(1), false);
        is(x.outputByte(0), -1);
        is(x.undo(), -1);
        fails(STATE, x::restoreState);
        is(OrphanTree.NO_ERROR, 0);
        is(OrphanTree.SYNTAX, 1);
        is(OrphanTree.OUT_OF_RANGE, 2);
        is(OrphanTree.TWICE, 3);
        is(OrphanTree.TOO_MANY, 4);
    }

    static void promise2() {
        OrphanTree x = new OrphanTree();
        for (int i = 1; i <= 25; i++) {
            is(x.appendInput(0x20202020, 0x20202020, 0x20202020, 0x20202020, 0x20202020), 20 * i);
        }
        is(x.appendInput(0, 0, 0, 0, 0), -1);
        is(x.truncateInput(501), false);
        is(x.truncateInput(481), true);
        is(x.appendInput(0, 0, 0, 0, 0), -1);
        is(x.truncateInput(480), true);
        is(x.appendInput(0x64656570, 0x20313739, 0x3b20200a, 0x20202020, 0x20202020), 500);
        is(x.loadTree(), -1);
        is(x.errorOffset(), 485);
        is(x.appendInput(0x64656570, 0x2031373b, 0x726f6f74, 0x20342035, 0x3b202020), 20);
        is(x.loadTree(), 1);
        is(x.count(10), 17);
        is(x.process(0, 1), 4);
        is(x.process(0, 7), 5);
        is(x.appendInput(0x64656570, 0x20310a3b, 0xff202020, 0x20202020, 0x20202020), 20);
        is(x.loadTree(), -1);
        is(x.errorOffset(), 8);
    }

    static void promise3() {
        OrphanTree x = new OrphanTree();
        is(x.truncateInput(0), true);
        is(x.truncateInput(1), false);
        is(x.truncateInput(-1), false);
        write(x, "deep 12;deep 13;");
        is(x.truncateInput(17), false);
        is(x.truncateInput(-1), false);
        is(x.truncateInput(Integer.MIN_VALUE), false);
        is(x.truncateInput(Integer.MAX_VALUE), false);
        is(x.truncateInput(16), true);
        is(x.truncateInput(8), true);
        is(x.truncateInput(9), false);
        is(x.loadTree(), 1);
        is(x.count(10), 12);
        write(x, "deep 12;deep 13;");
        is(x.truncateInput(4), true);
        is(x.appendInput(0x20353b20, 0x20202020, 0x20202020, 0x20202020, 0x20202020), 24);
        is(x.loadTree(), 1);
        is(x.count(10), 5);
    }

    static void promise4() {
        OrphanTree x = new OrphanTree();
        is(x.loadTree(), 1);
        is(load(x, FAMILY), 6);
        is(x.truncateInput(1), false);
        x.exit(4, 1);
        x.saveState();
        is(x.print(0, 2), 14);
        is(load(x, "deep 3;process 0 1 1 1;bad"), -1);
        is(x.truncateInput(1), false);
        is(x.count(0), 7);
        is(x.count(10), 20);
        is(x.count(9), 1);
        is(x.outputByte(0), (int) '0');
        is(x.restoreState(), 6);
        x.setBudget(0, 4);
        is(load(x, " \n deep 7 ; root 8 2 ; order old kin ;process 0 1 5 3;"), 2);
        int[] due = {2, 2, 0, 0, 0, 0, 0, 0, 8, 0, 7};
        for (int what = 0; what < due.length; what++) {
            is(x.count(what), due[what]);
        }
        fails(STATE, x::restoreState);
        is(x.undo(), -1);
        is(x.outputByte(0), -1);
        fails(ELEMENT, () -> x.exited(0));
        fails(BOUNDS, () -> x.depth(2));
        is(x.process(0, 7), 2);
        is(x.rule(0), 4);
        is(x.rule(1), 3);
        is(x.rule(2), -1);
        is(x.process(1, 6), 5);
        is(x.process(1, 8), -1);
        is(load(x, ""), 1);
        is(x.count(10), 20);
        is(x.rule(1), 1);
        is(x.process(0, 1), 9);
        is(x.process(0, 7), 0);
        is(load(x, "process0 4 1 2;heir1 0;process 1 0 0 0;root 0 0;will 1 0 2;will 1 7 0;duty 0 1;duty 0 0;"), 3);
        is(x.process(0, 1), 0);
        is(x.process(1, 8), 0);
        is(x.process(1, 14), 129);
        is(x.holder(0), 0);
        is(load(x, "process 0 9 1 0;refuse 1 3;process 1 0 3 0;"), 3);
        is(x.process(2, 0), 1);
        is(load(x, processes(24)), 25);
        is(x.process(24, 0), 3);
        String once = "order old;deep 3;root 8 1;process 0 9 0 0;heir 1 0;refuse 1 3;will 1 2 0;";
        is(load(x, once), 2);
        is(load(x, once), 2);
        is(x.process(0, 3), 1);
        is(load(x, "process 0 9 0 0;"), 2);
        is(x.process(1, 8), -1);
        is(x.process(1, 11), 0);
        is(x.process(1, 14), 0);
    }

    static void promise5() {
        OrphanTree x = new OrphanTree();
        is(x.errorCode(), 0);
        is(load(x, "x"), -1);
        is(x.errorCode(), 1);
        is(load(x, "deep 21;"), -1);
        is(x.errorCode(), 2);
        is(x.errorCode(), 2);
        is(load(x, "deep 20;"), 1);
        is(x.errorCode(), 0);
        syntaxErrors();
        rangeErrors();
        twiceErrors();
        refused(processes(25), 4, 384);
        refused(processes(24) + "process x", 4, 384);
        refused(processes(24) + "processes", 1, 384);
    }

    private static void syntaxErrors() {
        refused(";", 1, 0);
        refused("deep 1;;", 1, 7);
        refused("deep 1", 1, 6);
        refused("deep 1 \n ", 1, 9);
        refused("deep", 1, 4);
        refused("deep ;", 1, 5);
        refused("deep x;", 1, 5);
        refused("deep 1 x;", 1, 7);
        refused("deep 1 2;", 1, 7);
        refused("deep 100;", 1, 5);
        refused("deep 1 100;", 1, 7);
        refused("deep 001;", 1, 5);
        refused("deep -1;", 1, 5);
        refused("deep 1\t;", 1, 6);
        refused("deep 1\r;", 1, 6);
        refused("deep\u00e9 1;", 1, 4);
        refused("deep\u0000 1;", 1, 4);
        refused("Deep 1;", 1, 0);
        refused("deeper 1;", 1, 0);
        refused("beep 1;", 1, 0);
        refused("arder;", 1, 0);
        refused("ordera;", 1, 0);
        refused("orderz;", 1, 0);
        refused("order wear;", 1, 6);
        refused("dee 1;", 1, 0);
        refused("5;", 1, 0);
        refused("root 1;", 1, 6);
        refused("root 1 2 3;", 1, 9);
        refused("order near far;", 1, 11);
        refused("order 1;", 1, 6);
        refused("order near", 1, 10);
        refused("order near 1;", 1, 11);
        refused("order nearroom;", 1, 6);
        refused("order near group room kin old x;", 1, 30);
        refused("order near group room kin old 7;", 1, 30);
        refused("process 0 1 1;", 1, 13);
        refused("process 0 1 1 1", 1, 15);
        refused("process 0 1 1 1 1;", 1, 16);
        refused("process 0 1 1 1;heir 1;", 1, 22);
        refused("process 0 1 1 1;heir 1 0 0;", 1, 25);
        refused("duty 1;", 1, 6);
        refused("duty 1 0 0;", 1, 9);
        refused("process 0 1 1 1;refuse 1;", 1, 24);
        refused("process 0 1 1 1;refuse 1 1 1;", 1, 27);
        refused("process 0 1 1 1;will 1 1;", 1, 24);
        refused("process 0 1 1 1;will 1 1 0 0;", 1, 27);
        refused("process 0 1 1 1;will ", 1, 21);
    }

    private static void rangeErrors() {
        refused("deep 0;", 2, 5);
        refused("deep 00;", 2, 5);
        refused("deep 21;", 2, 5);
        refused("root 10 0;", 2, 5);
        refused("root 0 10;", 2, 7);
        refused("process 1 0 0 0;", 2, 8);
        refused("process 0 10 0 0;", 2, 10);
        refused("process 0 0 10 0;", 2, 12);
        refused("process 0 0 0 10;", 2, 14);
        refused("process 0 0 0 0;process 1 0 0 0;", 2, 24);
        refused("process 0 1 0 0;process 1 0 0 0;process 1 0 0 0;", 2, 40);
        refused("root 1 0;process 0 1 0 0;process 0 1 0 0;", 2, 33);
        refused("heir 0 1;", 2, 5);
        refused("heir 1 0;", 2, 5);
        refused("process 0 0 0 0;heir 0 1;", 2, 21);
        refused("process 0 0 0 0;heir 2 1;", 2, 21);
        refused("process 0 0 0 0;heir 1 1;", 2, 23);
        refused("process 0 0 0 0;heir 1 2;", 2, 23);
        refused("duty 8 0;", 2, 5);
        refused("duty 0 1;", 2, 7);
        refused("refuse 0 1;", 2, 7);
        refused("refuse 1 1;", 2, 7);
        refused("process 0 0 0 0;refuse 1 10;", 2, 25);
        refused("process 0 0 0 0;will 0 1 1;", 2, 21);
        refused("process 0 0 0 0;will 2 1 1;", 2, 21);
        refused("process 0 0 0 0;will 1 8 0;", 2, 23);
        refused("process 0 0 0 0;will 1 1 1;", 2, 25);
        refused("process 0 0 0 0;will 1 1 2;", 2, 25);
    }

    private static void twiceErrors() {
        refused("order;order;", 3, 6);
        refused("order;deep 3;order near;", 3, 13);
        refused("deep 1;deep 2;", 3, 7);
        refused("deep 1;deep x;", 3, 7);
        refused("root 1 1;root 1 1;", 3, 9);
        refused("order near near;", 3, 11);
        refused("order old near kin room group old;", 3, 30);
        refused("order old near kin room group near;", 3, 30);
        refused("process 0 0 0 0;heir 1 0;heir 1 0;", 3, 30);
        refused("process 0 0 0 0;heir 1 0;heir 1 1;", 3, 30);
        refused("process 0 0 0 0;refuse 1 0;refuse 1 0;", 3, 36);
        refused("process 0 0 0 0;will 1 7 0;will 1 7 9;", 3, 34);
    }

    static void promise6() {
        OrphanTree x = new OrphanTree();
        is(x.errorOffset(), -1);
        is(load(x, "  deep 1;x"), -1);
        is(x.errorOffset(), 9);
        is(load(x, ""), 1);
        is(x.errorOffset(), -1);
        is(load(x, "x"), -1);
        is(x.errorOffset(), 0);
        x.spawn(0, 1, 1, 1);
        x.undo();
        x.saveState();
        x.restoreState();
        is(x.errorOffset(), 0);
        is(x.errorCode(), 1);
    }

    static void promise7() {
        OrphanTree x = tree(FAMILY + "root 9 1;deep 19;");
        is(x.exit(4, 1), 0);
        is(x.exit(5, 3), 0);
        is(x.exit(3, 0), 0);
        int[] due = {8, 5, 2, 1, 3, 1, 0, 2, 6, 3, 19};
        for (int what = 0; what < due.length; what++) {
            is(x.count(what), due[what]);
        }
        x.setCapacity(7, 0);
        x.exit(1, 0);
        is(x.count(6), 1);
        is(x.count(5), 3);
        is(x.count(3), 4);
        fails(ARGUMENT, () -> x.count(-1));
        fails(ARGUMENT, () -> x.count(11));
        for (int i = 0; i < 12; i++) {
            x.setBudget(0, i % 9);
        }
        is(x.count(9), 10);
    }

    static void promise8() {
        OrphanTree x = tree("process 0 3 4 5;process 1 2 1 0;process 1 1 6 0;process 2 0 3 0;refuse 1 2;refuse 1 9;heir 1 3;"
            + "duty 3 1;duty 7 1;will 1 0 2;will 1 6 0;");
        int[] due = {0, 3, 1, 2, 0, 0, 4, 5, 3, 136, -1, 516, 0, -1, 65};
        for (int what = 0; what < due.length; what++) {
            is(x.process(1, what), due[what]);
        }
        is(x.exit(2, 200), 0);
        int[] zombie = {1, 2, 0, 0, 0, 1, 1, 0, -1, 0, 200, 0, 0, 5, 0};
        for (int what = 0; what < zombie.length; what++) {
            is(x.process(2, what), zombie[what]);
        }
        is(x.process(1, 4), 1);
        is(x.process(1, 3), 2);
        is(x.process(1, 2), 1);
        is(x.process(1, 7), 4);
        is(x.process(4, 0), 5);
        is(x.process(4, 12), 1);
        x.setCapacity(1, 1);
        is(x.process(1, 2), 0);
        x.exit(1, 9);
        is(x.process(1, 0), 0);
        is(x.process(1, 5), 2);
        is(x.process(1, 14), 65);
        is(x.process(1, 8), 3);
        is(x.process(1, 11), 516);
        is(x.process(1, 9), 0);
        is(x.process(2, 5), 2);
        is(x.process(2, 0), 0);
        is(x.process(0, 0), -1);
        fails(BOUNDS, () -> x.process(6, 0));
        fails(BOUNDS, () -> x.process(-1, 99));
        fails(ARGUMENT, () -> x.process(0, 15));
        fails(ARGUMENT, () -> x.process(2, -1));
    }

    static void promise9() {
        OrphanTree x = tree(FAMILY);
        is(x.holder(0), 2);
        is(x.holder(1), 4);
        is(x.holder(7), 0);
        fails(ARGUMENT, () -> x.holder(8));
        fails(ARGUMENT, () -> x.holder(-1));
        is(tree("process 0 1 0 0;duty 7 1;duty 7 0;duty 6 0;duty 6 1;").holder(6), 1);
    }

    static void promise10() {
        OrphanTree x = tree("order old kin room group near;");
        for (int i = 0; i < 5; i++) {
            is(x.rule(i), 4 - i);
        }
        is(x.rule(5), -1);
        is(x.rule(-1), -1);
        is(x.rule(Integer.MIN_VALUE), -1);
        is(x.rule(Integer.MAX_VALUE), -1);
        is(tree("order;").rule(0), -1);
    }

    static void promise11() {
        OrphanTree x = tree(CHAIN);
        is(x.depth(0), 0);
        is(x.depth(1), 1);
        is(x.depth(3), 3);
        x.exit(4, 0);
        is(x.depth(4), 2);
        x.read(1);
        fails(STATE, () -> x.depth(4));
        fails(BOUNDS, () -> x.depth(5));
        fails(BOUNDS, () -> x.depth(-1));
    }

    static void promise12() {
        OrphanTree x = tree(CHAIN);
        is(x.isAbove(0, 3), true);
        is(x.isAbove(1, 3), true);
        is(x.isAbove(3, 1), false);
        is(x.isAbove(2, 2), false);
        is(x.isAbove(2, 4), false);
        is(x.isAbove(4, 3), false);
        x.exit(3, 0);
        is(x.isAbove(1, 3), true);
        x.read(2);
        is(x.isAbove(1, 3), false);
        is(x.isAbove(3, 1), false);
        fails(BOUNDS, () -> x.isAbove(5, 0));
        fails(BOUNDS, () -> x.isAbove(0, 5));
        fails(BOUNDS, () -> x.isAbove(0, -1));
    }

    static void promise13() {
        OrphanTree x = tree(CHAIN + "process 0 0 0 0;");
        is(x.meet(3, 4), 1);
        is(x.meet(4, 3), 1);
        is(x.meet(2, 3), 2);
        is(x.meet(3, 2), 2);
        is(x.meet(3, 3), 3);
        is(x.meet(5, 3), 0);
        is(x.meet(0, 0), 0);
        x.exit(3, 0);
        is(x.meet(3, 4), 1);
        x.read(2);
        fails(STATE, () -> x.meet(3, 4));
        fails(STATE, () -> x.meet(4, 3));
        fails(BOUNDS, () -> x.meet(6, 3));
        fails(BOUNDS, () -> x.meet(3, -1));
    }

    static void promise14() {
        OrphanTree x = tree(CHAIN);
        is(x.below(0), 4);
        is(x.below(1), 3);
        is(x.below(3), 0);
        x.exit(3, 0);
        is(x.below(1), 2);
        is(x.below(3), 0);
        x.read(2);
        is(x.below(3), 0);
        fails(BOUNDS, () -> x.below(5));
        fails(BOUNDS, () -> x.below(-1));
    }

    static void promise15() {
        OrphanTree x = tree("process 0 2 0 0;process 0 2 0 0;process 2 1 0 0;process 1 0 0 0;process 1 1 0 0;process 3 0 0 0;");
        int[] due = {0, 1, 4, 5, 2, 3, 6};
        for (int i = 0; i < due.length; i++) {
            is(x.walked(i), due[i]);
        }
        fails(ELEMENT, () -> x.walked(7));
        fails(ELEMENT, () -> x.walked(-1));
        fails(ELEMENT, () -> x.walked(Integer.MAX_VALUE));
        fails(ELEMENT, () -> x.walked(Integer.MIN_VALUE));
        x.exit(5, 0);
        is(x.walked(3), 2);
        fails(ELEMENT, () -> x.walked(6));
    }

    static void promise16() {
        OrphanTree x = tree(CHAIN);
        is(x.atDepth(0), 1);
        is(x.atDepth(2), 2);
        is(x.atDepth(3), 1);
        is(x.atDepth(4), 0);
        is(x.atDepth(-1), 0);
        is(x.atDepth(Integer.MIN_VALUE), 0);
        is(x.atDepth(Integer.MAX_VALUE), 0);
        x.exit(4, 0);
        is(x.atDepth(2), 1);
    }

    static void promise17() {
        OrphanTree x = tree(CHAIN);
        is(x.height(), 3);
        x.exit(3, 0);
        is(x.height(), 2);
        is(new OrphanTree().height(), 0);
        OrphanTree chain = new OrphanTree();
        for (int i = 0; i < 39; i++) {
            chain.spawn(i, 1, 0, 0);
        }
        is(chain.height(), 39);
    }

    static void promise18() {
        OrphanTree x = tree("process 0 1 0 0;process 0 1 3 0;refuse 2 5;");
        is(x.spawn(1, 2, 3, 4), 3);
        int[] due = {1, 2, 2, 0, 0, 0, 3, 4, -1, 0, -1, 0, 0, -1, 0};
        for (int what = 0; what < due.length; what++) {
            is(x.process(3, what), due[what]);
        }
        is(x.count(5), 0);
        is(x.count(9), 1);
        fails(STATE, () -> x.spawn(1, 0, 0, 0));
        is(x.spawn(2, 0, 5, 0), 4);
        fails(BOUNDS, () -> x.spawn(5, 10, 0, 0));
        fails(BOUNDS, () -> x.spawn(-1, 0, 0, 0));
        fails(ARGUMENT, () -> x.spawn(1, 10, 0, 0));
        fails(ARGUMENT, () -> x.spawn(1, 0, 10, 0));
        fails(ARGUMENT, () -> x.spawn(1, 0, 0, 10));
        fails(ARGUMENT, () -> x.spawn(0, -1, 0, 0));
        fails(ARGUMENT, () -> x.spawn(0, 0, -1, 0));
        fails(ARGUMENT, () -> x.spawn(0, 0, 0, -1));
        is(x.count(9), 2);
        x.exit(3, 0);
        fails(STATE, () -> x.spawn(3, 0, 0, 0));
        is(x.spawn(1, 9, 9, 9), 5);
        fillUp(x, 39);
        is(x.spawn(0, 0, 0, 0), 39);
        fails(STATE, () -> x.spawn(0, 0, 0, 0));
        is(x.count(0), 40);
        OrphanTree full = tree("root 0 0;");
        fails(STATE, () -> full.spawn(0, 0, 0, 0));
    }

    static void promise19() {
        OrphanTree x = tree(CHAIN);
        fails(BOUNDS, () -> x.exit(5, 256));
        fails(BOUNDS, () -> x.exit(-1, 0));
        fails(ARGUMENT, () -> x.exit(0, 256));
        fails(ARGUMENT, () -> x.exit(1, -1));
        fails(STATE, () -> x.exit(0, 0));
        is(x.count(9), 0);
        is(x.exit(2, 255), 0);
        supervisors(x, -1, 0, 1, 1, 1);
        is(x.process(2, 5), 1);
        is(x.process(2, 10), 255);
        is(x.count(7), 0);
        fails(STATE, () -> x.exit(2, 0));
        x.read(1);
        fails(STATE, () -> x.exit(2, 0));
        is(x.exit(1, 0), 1);
        supervisors(x, -1, 0, 1, 0, 3);
        is(x.count(9), 3);
        replacements();
        inheritances();
        zombiesMoveUp();
        rules();
        limitsOfAdoption();
    }

    private static void replacements() {
        OrphanTree x = tree("root 9 2;process 0 2 4 3;process 1 2 5 0;process 1 0 6 0;"
            + "heir 1 3;refuse 1 7;duty 2 1;will 1 2 3;order;");
        x.setCapacity(1, 1);
        is(x.exit(1, 5), 1);
        supervisors(x, -1, 0, 4, 0, 0);
        int[] due = {0, 1, 0, 1, 0, 0, 4, 3, -1, 4, -1, 0, 0, -1, 0};
        for (int what = 0; what < due.length; what++) {
            is(x.process(4, what), due[what]);
        }
        is(x.process(1, 13), 4);
        is(x.process(1, 7), 3);
        is(x.process(0, 7), 1);
        is(x.count(5), 2);
        is(x.count(6), 1);
        is(x.count(7), 1);
        is(x.exit(4, 0), 1);
        is(x.count(0), 5);
        is(x.process(0, 7), 1);
        x.exit(2, 1);
        is(x.process(0, 7), 0);
        x.exit(5, 1);
        is(x.count(0), 6);
        OrphanTree full = tree("root 9 5;");
        fillUp(full, 39);
        full.spawn(0, 0, 0, 0);
        full.exit(39, 1);
        is(full.count(0), 40);
        is(full.process(0, 7), 5);
        is(full.process(39, 13), -1);
        OrphanTree last = tree("root 9 5;");
        fillUp(last, 38);
        last.spawn(0, 0, 0, 0);
        last.exit(38, 1);
        is(last.process(38, 13), 39);
        OrphanTree asks = tree("process 0 9 0 1;process 1 1 1 0;process 2 0 2 0;refuse 2 2;deep 1;");
        is(asks.exit(2, 1), 0);
        is(asks.process(3, 0), 4);
    }

    private static void inheritances() {
        String text = "process 0 9 0 0;process 1 9 0 0;process 2 9 0 0;process 2 9 0 0;process 0 9 0 0;"
            + "duty 0 2;duty 1 2;duty 2 2;duty 3 5;heir 2 5;will 2 1 0;will 2 2 4;";
        OrphanTree x = tree(text);
        x.exit(2, 0);
        is(x.holder(0), 5);
        is(x.holder(1), 0);
        is(x.holder(2), 4);
        is(x.holder(3), 5);
        OrphanTree y = tree(text);
        y.exit(5, 0);
        y.exit(4, 0);
        y.exit(2, 0);
        is(y.holder(0), 3);
        is(y.holder(2), 3);
        is(y.holder(3), 0);
        y.exit(3, 0);
        is(y.holder(0), 1);
        is(y.holder(1), 0);
        OrphanTree z = tree(text);
        z.exit(4, 0);
        z.exit(2, 0);
        is(z.holder(2), 5);
        OrphanTree r = tree(text + "root 9 0;");
        r.setBudget(1, 1);
        r.exit(2, 1);
        is(r.process(6, 9), 7);
    }

    private static void zombiesMoveUp() {
        OrphanTree x = tree(CHAIN);
        x.exit(3, 7);
        x.exit(2, 8);
        is(x.process(3, 0), 1);
        is(x.process(2, 0), 1);
        x.exit(4, 9);
        is(printed(x, 1, 4), "3:7,2:8,4:9");
        is(x.exit(1, 0), 0);
        is(x.count(3), 4);
        supervisors(x, -1, 0, 0, 0, 0);
        is(x.process(4, 10), 9);
    }

    private static void rules() {
        String family = "process 0 3 0 0;process 1 2 1 0;process 1 3 2 0;process 2 0 2 0;process 0 4 2 0;process 0 3 2 0;";
        is(tree("order near;" + family).adopter(4), 1);
        is(tree("order group;" + family).adopter(4), 5);
        is(tree("order room;" + family).adopter(4), 5);
        is(tree("order kin;" + family).adopter(4), 3);
        is(tree("order old;" + family).adopter(4), 1);
        is(tree("order;" + family).adopter(4), 0);
        OrphanTree near = tree("order near;" + family);
        is(near.exit(2, 0), 0);
        is(near.process(4, 0), 1);
        OrphanTree kin = tree("order kin;" + family);
        is(kin.exit(2, 0), 0);
        is(kin.process(4, 0), 3);
        is(kin.exit(1, 0), 0);
        is(kin.process(3, 0), 5);
        OrphanTree tie = tree("order group;" + family);
        tie.setCapacity(5, 3);
        is(tie.adopter(4), 3);
        tie.setCapacity(3, 2);
        is(tie.adopter(4), 5);
        tie.setCapacity(6, 4);
        is(tie.adopter(4), 6);
        OrphanTree rest = tree("order near kin;process 0 1 0 0;process 1 1 0 0;process 2 0 0 0;process 0 1 0 0;");
        is(rest.adopter(3), 0);
        is(rest.adopter(2), 4);
        OrphanTree sibling = tree("order old;process 0 0 0 0;process 0 3 0 0;process 2 2 0 0;process 2 2 0 0;process 3 1 0 0;");
        is(sibling.exit(2, 0), 1);
        supervisors(sibling, -1, 0, 0, 4, 0, 3);
        OrphanTree order = tree("order room;process 0 1 0 0;process 0 2 0 0;process 2 0 0 0;process 2 0 0 0;");
        is(order.exit(2, 0), 1);
        supervisors(order, -1, 0, 0, 1, 0);
    }

    private static void limitsOfAdoption() {
        String family = "process 0 3 0 0;process 1 1 1 0;process 2 1 2 0;process 3 2 3 0;process 4 0 4 0;process 0 0 5 0;";
        is(tree("order near;deep 1;" + family).adopter(5), 0);
        is(tree("order near;deep 2;" + family).adopter(5), 1);
        OrphanTree x = tree("order near;deep 4;" + family);
        is(x.adopter(5), 1);
        is(tree("order near;deep 4;" + family + "refuse 1 4;").adopter(5), 0);
        x.exit(3, 0);
        is(x.process(4, 0), 2);
        is(x.adopter(5), 1);
        OrphanTree old = tree("order old;process 0 1 0 0;process 1 2 0 0;process 2 0 0 0;process 0 1 0 0;");
        is(old.adopter(1), 4);
        is(old.adopter(2), 4);
        is(old.adopter(3), 4);
        is(old.adopter(4), 2);
        OrphanTree self = tree("order old room group near kin;process 0 5 0 0;process 1 5 0 0;");
        is(self.adopter(1), 0);
        is(self.adopter(2), 0);
        OrphanTree zombie = tree("order old;process 0 1 0 0;process 1 5 0 0;process 0 2 0 0;process 3 0 0 0;");
        is(zombie.adopter(4), 2);
        zombie.exit(2, 0);
        is(zombie.process(2, 5), 1);
        is(zombie.adopter(4), 1);
    }

    static void promise20() {
        OrphanTree x = tree("root 9 1;process 0 9 3 2;process 1 9 3 0;process 2 9 1 0;process 0 9 3 0;process 4 1 0 0;");
        is(x.kill(3, 4), 3);
        is(x.exited(0), 1);
        is(x.exited(1), 2);
        is(x.exited(2), 4);
        fails(ELEMENT, () -> x.exited(3));
        supervisors(x, -1, 0, 6, 7, 0, 3);
        is(x.process(1, 13), 6);
        is(x.process(2, 13), 7);
        is(x.process(6, 5), 0);
        is(x.process(7, 0), 6);
        is(x.process(6, 7), 1);
        is(x.count(9), 1);
        is(x.ofGroup(3), 2);
        is(x.kill(9, 0), 0);
        is(x.count(9), 2);
        is(x.kill(0, 0), 1);
        fails(ARGUMENT, () -> x.kill(10, 0));
        fails(ARGUMENT, () -> x.kill(-1, 0));
        fails(ARGUMENT, () -> x.kill(0, 256));
        fails(ARGUMENT, () -> x.kill(0, -1));
        is(x.count(9), 3);
        doomedOnes();
    }

    private static void doomedOnes() {
        OrphanTree noRoom = tree("order old;process 0 9 3 0;process 0 1 3 0;process 2 0 1 0;process 0 1 3 0;process 4 0 1 0;"
            + "process 0 1 2 0;");
        is(noRoom.kill(3, 0), 3);
        supervisors(noRoom, -1, 0, 0, 6, 0, 0, 0);
        is(noRoom.count(6), 1);
        OrphanTree doomedBoss = tree("process 0 9 1 0;process 1 9 3 5;process 2 9 3 0;process 2 9 3 0;order;");
        doomedBoss.give(0, 4);
        doomedBoss.give(1, 2);
        is(doomedBoss.kill(3, 1), 3);
        is(doomedBoss.count(7), 0);
        is(doomedBoss.process(2, 7), 5);
        is(doomedBoss.holder(1), 1);
        is(doomedBoss.holder(0), 0);
        OrphanTree heirs = tree("process 0 9 3 0;process 1 9 3 0;process 1 9 1 0;process 0 9 3 0;process 4 0 3 0;process 0 9 0 0;"
            + "duty 0 1;duty 1 1;duty 2 5;duty 3 5;heir 1 2;will 1 1 4;will 5 3 6;");
        is(heirs.kill(3, 0), 4);
        is(heirs.holder(0), 3);
        is(heirs.holder(1), 3);
        is(heirs.holder(2), 3);
        is(heirs.holder(3), 6);
        OrphanTree last = tree("process 0 9 3 0;process 1 9 3 0;duty 5 2;order;");
        is(last.kill(3, 0), 2);
        is(last.holder(5), 0);
        OrphanTree toDoomed = tree("process 0 9 3 0;process 0 9 1 0;process 2 9 3 0;process 3 9 3 0;duty 5 4;duty 6 3;"
            + "heir 3 1;order;");
        is(toDoomed.kill(3, 0), 3);
        is(toDoomed.holder(6), 2);
        is(toDoomed.holder(5), 0);
        OrphanTree boss = tree("process 0 9 1 0;process 1 9 2 0;process 2 9 3 0;process 2 9 2 0;process 3 9 3 0;duty 5 5;duty 6 5;");
        boss.exchange(3, 4);
        is(shape(boss), "0(1(2(3(5) 4)))");
        is(boss.kill(3, 0), 2);
        is(boss.holder(5), 2);
        OrphanTree behind = tree("order room;process 0 5 3 0;process 0 1 1 0;process 2 0 1 0;");
        is(behind.kill(3, 0), 1);
        behind.spawn(0, 9, 3, 0);
        is(behind.adopter(3), 4);
        OrphanTree root = tree("process 0 1 0 0;process 1 1 0 0;");
        is(root.kill(0, 0), 2);
        is(root.count(1), 1);
    }

    static void promise21() {
        OrphanTree x = tree(CHAIN);
        x.exit(4, 255);
        x.exit(2, 0);
        is(x.read(1), 4255);
        is(x.process(4, 5), 2);
        is(x.process(2, 5), 1);
        is(x.process(4, 0), 1);
        is(x.count(9), 3);
        is(x.read(1), 2000);
        fails(ELEMENT, () -> x.read(1));
        fails(ELEMENT, () -> x.read(0));
        fails(STATE, () -> x.read(4));
        fails(BOUNDS, () -> x.read(5));
        fails(BOUNDS, () -> x.read(-1));
        is(x.count(9), 4);
        x.undo();
        is(x.read(1), 2000);
    }

    static void promise22() {
        String text = "order old;process 0 4 0 0;process 1 1 3 0;process 1 0 3 0;process 1 0 2 0;process 0 1 1 0;";
        OrphanTree x = tree(text);
        is(x.refuse(1, 3), 2);
        supervisors(x, -1, 0, 5, 2, 1, 0);
        is(x.process(1, 11), 8);
        is(x.process(2, 12), 1);
        is(x.count(5), 2);
        is(x.count(6), 0);
        is(x.refuse(1, 3), 0);
        is(x.count(9), 2);
        is(x.refuse(1, 2), 1);
        is(x.process(1, 11), 12);
        is(x.process(4, 0), 0);
        is(x.process(4, 12), 1);
        is(x.count(6), 1);
        fails(BOUNDS, () -> x.refuse(6, 10));
        fails(BOUNDS, () -> x.refuse(-1, 0));
        fails(ARGUMENT, () -> x.refuse(0, 10));
        fails(ARGUMENT, () -> x.refuse(1, -1));
        fails(STATE, () -> x.refuse(0, 0));
        x.exit(3, 0);
        fails(STATE, () -> x.refuse(3, 0));
        OrphanTree told = tree("order old;process 0 4 0 0;refuse 1 3;process 1 1 3 0;");
        is(told.refuse(1, 3), 1);
        is(told.process(2, 0), 0);
    }

    static void promise23() {
        OrphanTree x = tree("process 0 0 0 0;refuse 1 3;refuse 1 0;refuse 1 9;");
        is(x.accept(1, 3), true);
        is(x.process(1, 11), 513);
        is(x.accept(1, 3), false);
        is(x.accept(0, 3), false);
        is(x.count(9), 3);
        fails(BOUNDS, () -> x.accept(2, 10));
        fails(ARGUMENT, () -> x.accept(1, 10));
        fails(ARGUMENT, () -> x.accept(1, -1));
        x.exit(1, 0);
        fails(STATE, () -> x.accept(1, 0));
        is(x.count(9), 4);
    }

    static void promise24() {
        OrphanTree x = tree(CHAIN + "process 0 1 0 0;refuse 5 4;deep 1;");
        is(x.move(3, 5), 2);
        supervisors(x, -1, 0, 1, 5, 1, 0);
        is(x.process(2, 3), 0);
        is(x.process(5, 3), 1);
        is(x.process(3, 12), 0);
        is(x.count(5), 0);
        fails(STATE, () -> x.move(2, 5));
        fails(STATE, () -> x.move(3, 5));
        is(x.move(2, 1), 1);
        x.setCapacity(5, 5);
        fails(STATE, () -> x.move(4, 5));
        is(x.move(3, 5), 5);
        fails(STATE, () -> x.move(0, 1));
        fails(STATE, () -> x.move(1, 1));
        fails(STATE, () -> x.move(1, 2));
        x.exit(3, 0);
        fails(STATE, () -> x.move(3, 1));
        fails(STATE, () -> x.move(2, 3));
        fails(BOUNDS, () -> x.move(6, 0));
        fails(BOUNDS, () -> x.move(0, 6));
        fails(BOUNDS, () -> x.move(0, -1));
        is(x.count(9), 5);
        is(x.move(1, 5), 0);
        is(shape(x), "0(5(1(2 4)))");
    }

    static void promise25() {
        OrphanTree x = tree(CHAIN);
        is(x.setCapacity(1, 1), 3);
        is(x.process(1, 1), 1);
        is(x.process(1, 2), 0);
        is(x.process(1, 3), 2);
        is(x.setCapacity(0, 0), 9);
        is(x.setCapacity(0, 9), 0);
        fails(BOUNDS, () -> x.setCapacity(5, 10));
        fails(ARGUMENT, () -> x.setCapacity(1, 10));
        fails(ARGUMENT, () -> x.setCapacity(1, -1));
        x.exit(3, 0);
        fails(ARGUMENT, () -> x.setCapacity(3, 10));
        fails(STATE, () -> x.setCapacity(3, 1));
        is(x.count(9), 4);
    }

    static void promise26() {
        OrphanTree x = tree(CHAIN + "root 9 7;");
        is(x.setBudget(0, 9), 7);
        is(x.setBudget(1, 2), 0);
        is(x.process(1, 7), 2);
        fails(BOUNDS, () -> x.setBudget(5, 10));
        fails(ARGUMENT, () -> x.setBudget(1, 10));
        fails(ARGUMENT, () -> x.setBudget(1, -1));
        x.exit(3, 0);
        fails(ARGUMENT, () -> x.setBudget(3, -1));
        fails(STATE, () -> x.setBudget(3, 1));
        is(x.count(9), 3);
    }

    static void promise27() {
        OrphanTree x = tree(CHAIN + "heir 1 3;");
        is(x.setHeir(1, 2), 3);
        is(x.process(1, 8), 2);
        is(x.setHeir(1, 0), 2);
        is(x.setHeir(1, -1), 0);
        is(x.setHeir(1, -1), -1);
        x.exit(3, 0);
        is(x.setHeir(1, 3), -1);
        is(x.count(9), 6);
        fails(BOUNDS, () -> x.setHeir(5, 5));
        fails(BOUNDS, () -> x.setHeir(-1, -1));
        fails(BOUNDS, () -> x.setHeir(0, 5));
        fails(BOUNDS, () -> x.setHeir(1, -2));
        fails(ARGUMENT, () -> x.setHeir(0, 0));
        fails(ARGUMENT, () -> x.setHeir(3, 3));
        fails(STATE, () -> x.setHeir(0, 1));
        fails(STATE, () -> x.setHeir(3, 1));
        is(x.count(9), 6);
    }

    static void promise28() {
        OrphanTree x = tree(CHAIN + "duty 2 4;");
        is(x.give(2, 3), 4);
        is(x.holder(2), 3);
        is(x.give(2, 3), 3);
        is(x.give(7, 1), 0);
        is(x.process(1, 9), 128);
        is(x.give(7, 0), 1);
        is(x.count(9), 4);
        fails(ARGUMENT, () -> x.give(8, 5));
        fails(ARGUMENT, () -> x.give(-1, 1));
        fails(BOUNDS, () -> x.give(0, 5));
        fails(BOUNDS, () -> x.give(0, -1));
        x.exit(4, 0);
        fails(STATE, () -> x.give(0, 4));
        is(x.count(9), 5);
    }

    static void promise29() {
        OrphanTree x = tree(FAMILY);
        is(x.adopter(4), 5);
        is(x.adopter(1), 5);
        x.refuse(5, 2);
        is(x.adopter(4), 2);
        is(x.count(9), 1);
        is(x.process(4, 0), 3);
        is(x.process(4, 12), 0);
        fails(STATE, () -> x.adopter(0));
        x.exit(4, 0);
        fails(STATE, () -> x.adopter(4));
        fails(BOUNDS, () -> x.adopter(6));
        fails(BOUNDS, () -> x.adopter(-1));
        is(tree("order;process 0 9 0 0;process 0 9 0 0;").adopter(2), 0);
        is(tree("order kin;process 0 9 0 0;process 0 9 0 0;").adopter(2), 0);
        is(tree("root 1 0;order near;process 0 1 0 0;process 1 0 0 0;").adopter(2), 0);
    }

    static void promise30() {
        OrphanTree x = tree(CHAIN + "heir 2 4;will 2 0 1;will 2 1 1;duty 0 2;");
        is(x.heirNow(2), 4);
        is(x.heirNow(1), 2);
        is(x.heirNow(3), 2);
        x.setHeir(3, 0);
        is(x.heirNow(3), 0);
        x.exit(4, 0);
        is(x.heirNow(2), 3);
        fails(STATE, () -> x.heirNow(4));
        fails(STATE, () -> x.heirNow(0));
        fails(BOUNDS, () -> x.heirNow(5));
        fails(BOUNDS, () -> x.heirNow(-1));
        x.setBudget(1, 5);
        is(x.heirNow(2), 3);
    }

    static void promise31() {
        String text = "order near;root 9 1;process 0 2 0 0;process 1 0 0 0;process 1 2 0 0;process 3 0 0 0;process 3 0 0 0;";
        OrphanTree x = tree(text);
        is(x.wouldFall(1, 0), 2);
        is(x.wouldFall(1, 1), 0);
        is(x.wouldFall(3, 0), 1);
        is(x.wouldFall(2, 0), 0);
        is(shape(x), "0(1(2 3(4 5)))");
        is(x.count(4), 0);
        is(x.count(9), 0);
        is(x.exit(3, 0), 1);
        fails(BOUNDS, () -> x.wouldFall(6, 256));
        fails(ARGUMENT, () -> x.wouldFall(0, 256));
        fails(ARGUMENT, () -> x.wouldFall(1, -1));
        fails(STATE, () -> x.wouldFall(0, 0));
        fails(STATE, () -> x.wouldFall(3, 0));
    }

    static void promise32() {
        OrphanTree x = tree("order near;process 0 3 0 1;process 1 1 0 0;process 2 1 0 0;process 3 0 0 0;");
        is(x.wouldStand(4, 0), 3);
        is(x.wouldStand(2, 0), 3);
        is(x.wouldStand(2, 1), 4);
        is(x.wouldStand(1, 0), 3);
        is(x.height(), 4);
        is(x.count(9), 0);
        fails(BOUNDS, () -> x.wouldStand(-1, -1));
        fails(ARGUMENT, () -> x.wouldStand(0, 256));
        fails(STATE, () -> x.wouldStand(0, 255));
        x.exit(4, 0);
        fails(STATE, () -> x.wouldStand(4, 0));
    }

    static void promise33() {
        OrphanTree x = tree("order near;process 0 3 0 1;process 1 1 0 0;process 2 1 0 0;process 3 0 0 0;");
        is(x.wouldHave(3, 2, 0), 1);
        is(x.wouldHave(3, 2, 9), 5);
        is(x.wouldHave(2, 2, 0), 1);
        is(x.wouldHave(4, 2, 0), 3);
        is(x.wouldHave(0, 2, 0), -1);
        is(x.process(3, 0), 2);
        x.exit(4, 0);
        is(x.wouldHave(4, 3, 0), 2);
        is(x.wouldHave(4, 2, 0), 3);
        fails(STATE, () -> x.wouldHave(3, 4, 0));
        fails(STATE, () -> x.wouldHave(3, 0, 0));
        fails(BOUNDS, () -> x.wouldHave(5, 0, 256));
        fails(BOUNDS, () -> x.wouldHave(0, 5, 256));
        fails(BOUNDS, () -> x.wouldHave(-1, 1, 0));
        fails(ARGUMENT, () -> x.wouldHave(1, 0, 256));
        fails(ARGUMENT, () -> x.wouldHave(1, 1, -1));
    }

    static void promise34() {
        OrphanTree x = tree("order old;root 9 1;process 0 2 3 0;process 1 0 1 0;process 1 0 1 0;process 0 1 3 0;process 4 0 2 0;");
        is(x.wouldFallBy(3, 0), 3);
        is(x.wouldFallBy(3, 1), 1);
        is(x.wouldFallBy(2, 0), 0);
        is(x.wouldFallBy(0, 0), 0);
        is(x.exit(5, 0), 0);
        is(x.exit(4, 0), 0);
        is(x.exit(1, 0), 2);
        is(x.wouldFallBy(3, 0), 0);
        is(x.count(9), 3);
        is(x.count(1), 3);
        fails(ARGUMENT, () -> x.wouldFallBy(10, 0));
        fails(ARGUMENT, () -> x.wouldFallBy(-1, 0));
        fails(ARGUMENT, () -> x.wouldFallBy(0, 256));
        fails(ARGUMENT, () -> x.wouldFallBy(0, -1));
    }

    static void promise35() {
        String text = "order;root 9 1;process 0 1 0 0;process 0 2 0 0;process 2 0 0 0;process 2 0 0 0;process 1 2 0 0;"
            + "process 5 0 0 0;process 5 0 0 0;";
        OrphanTree x = tree(text);
        is(x.weakest(0), 2);
        is(x.weakest(1), 5);
        x.exit(3, 0);
        is(x.weakest(0), 5);
        x.exit(6, 0);
        is(x.weakest(0), 1);
        is(x.count(9), 2);
        is(new OrphanTree().weakest(255), -1);
        fails(ARGUMENT, () -> x.weakest(256));
        fails(ARGUMENT, () -> x.weakest(-1));
        OrphanTree none = tree("process 0 0 0 0;process 0 0 0 0;");
        is(none.weakest(0), 1);
        none.exit(1, 0);
        is(none.weakest(0), 2);
    }

    static void promise36() {
        OrphanTree x = tree("process 0 2 0 0;process 0 4 0 0;process 0 4 0 0;process 0 5 0 0;refuse 4 7;");
        is(x.roomiest(0), 4);
        is(x.roomiest(7), 2);
        x.spawn(2, 0, 0, 0);
        is(x.roomiest(7), 3);
        fails(ARGUMENT, () -> x.roomiest(10));
        fails(ARGUMENT, () -> x.roomiest(-1));
        x.exit(4, 0);
        is(x.roomiest(0), 3);
        is(tree("process 0 1 0 0;").roomiest(0), 1);
        is(tree("process 0 0 0 0;").roomiest(0), -1);
        is(new OrphanTree().roomiest(9), -1);
    }

    static void promise37() {
        OrphanTree x = tree(CHAIN);
        is(x.allRoom(), 8 + 1 + 1 + 1);
        x.setCapacity(1, 0);
        is(x.allRoom(), 8 + 0 + 1 + 1);
        x.exit(3, 0);
        is(x.allRoom(), 8 + 0 + 2);
    }

    static void promise38() {
        OrphanTree x = tree(CHAIN);
        is(x.overfull(), 0);
        x.setCapacity(1, 1);
        is(x.overfull(), 1);
        x.setCapacity(0, 0);
        is(x.overfull(), 2);
        x.setCapacity(1, 2);
        is(x.overfull(), 1);
        x.exit(2, 0);
        x.exit(1, 0);
        is(x.overfull(), 1);
    }

    static void promise39() {
        OrphanTree x = tree(CHAIN + "process 0 0 4 0;");
        is(x.ofGroup(0), 1);
        is(x.ofGroup(4), 2);
        is(x.ofGroup(9), 0);
        x.exit(4, 0);
        is(x.ofGroup(4), 1);
        fails(ARGUMENT, () -> x.ofGroup(10));
        fails(ARGUMENT, () -> x.ofGroup(-1));
    }

    static void promise40() {
        OrphanTree x = tree(CHAIN);
        is(x.nextTestament(1), -1);
        x.exit(4, 0);
        x.exit(2, 0);
        is(x.nextTestament(1), 4);
        x.read(1);
        is(x.nextTestament(1), 2);
        is(x.nextTestament(2), -1);
        is(x.nextTestament(4), -1);
        is(x.nextTestament(0), -1);
        fails(BOUNDS, () -> x.nextTestament(5));
        fails(BOUNDS, () -> x.nextTestament(-1));
    }

    static void promise41() {
        OrphanTree x = tree(CHAIN);
        x.exit(4, 0);
        x.exit(2, 0);
        x.read(1);
        is(x.exited(0), 4);
        is(x.exited(1), 2);
        fails(ELEMENT, () -> x.exited(2));
        fails(ELEMENT, () -> x.exited(-1));
        fails(ELEMENT, () -> x.exited(Integer.MAX_VALUE));
        x.saveState();
        x.undo();
        x.undo();
        fails(ELEMENT, () -> x.exited(1));
        x.undo();
        x.exit(2, 0);
        x.exit(4, 0);
        is(x.exited(0), 2);
        is(x.exited(1), 4);
        x.restoreState();
        is(x.exited(0), 4);
        is(x.exited(1), 2);
    }

    static void promise42() {
        OrphanTree x = tree(CHAIN);
        is(x.meanDepth(), 8.0 / 5.0);
        x.exit(4, 0);
        is(x.meanDepth(), 6.0 / 4.0);
        is(new OrphanTree().meanDepth(), 0.0);
        is(tree("process 0 9 0 0;process 1 9 0 0;").meanDepth(), 1.0);
        is(tree("process 0 9 0 0;process 0 9 0 0;").meanDepth(), 2.0 / 3.0);
    }

    static void promise43() {
        OrphanTree x = tree("order near;process 0 1 0 0;process 1 2 0 0;process 2 0 0 0;process 2 0 0 0;");
        is(x.rootShare(), 0.0f);
        x.exit(2, 0);
        is(x.rootShare(), 0.5f);
        x.exit(1, 0);
        is(x.rootShare(), 2.0f / 3.0f);
    }

    static void promise44() {
        OrphanTree x = tree("process 0 3 1 0;process 1 2 2 1;process 2 1 3 0;process 1 0 4 0;process 0 0 0 0;");
        is(x.prune(1, 7), 4);
        is(shape(x), "0(1 5)");
        is(x.exited(0), 3);
        is(x.exited(1), 6);
        is(x.exited(2), 4);
        is(x.exited(3), 2);
        is(printed(x, 1, 4), "3:7,6:7,4:7,2:7");
        is(x.count(7), 1);
        is(x.count(9), 1);
        is(x.prune(1, 0), 0);
        is(x.count(9), 2);
        is(x.prune(0, 0), 2);
        is(x.count(1), 1);
        fails(STATE, () -> x.prune(1, 0));
        fails(BOUNDS, () -> x.prune(7, 256));
        fails(BOUNDS, () -> x.prune(-1, 0));
        fails(ARGUMENT, () -> x.prune(1, 256));
        fails(ARGUMENT, () -> x.prune(0, -1));
        OrphanTree budget = tree("root 9 9;process 0 0 0 9;");
        is(budget.prune(0, 1), 10);
        is(budget.count(0), 11);
    }

    static void promise45() {
        OrphanTree x = tree(CHAIN + "process 0 1 0 0;process 5 0 0 0;");
        is(shape(x), "0(1(2(3) 4) 5(6))");
        is(x.exchange(2, 6), 0);
        is(shape(x), "0(1(4 6) 5(2(3)))");
        x.exit(3, 0);
        is(x.exchange(2, 1), 4);
        is(shape(x), "0(2 5(1(4 6)))");
        is(x.testamentsBelow(2), 1);
        is(x.count(5), 0);
        is(x.count(9), 3);
        fails(STATE, () -> x.exchange(1, 4));
        fails(STATE, () -> x.exchange(4, 1));
        fails(STATE, () -> x.exchange(6, 5));
        fails(STATE, () -> x.exchange(0, 2));
        fails(STATE, () -> x.exchange(2, 0));
        fails(STATE, () -> x.exchange(2, 2));
        fails(STATE, () -> x.exchange(2, 3));
        fails(STATE, () -> x.exchange(3, 2));
        fails(BOUNDS, () -> x.exchange(7, 2));
        fails(BOUNDS, () -> x.exchange(2, -1));
        OrphanTree crowded = tree("process 0 1 1 0;process 0 1 2 0;process 1 1 1 0;process 2 0 2 0;process 3 0 0 0;"
            + "refuse 1 2;refuse 2 1;");
        is(crowded.exchange(3, 4), 0);
        is(shape(crowded), "0(1(4) 2(3(5)))");
        is(crowded.process(1, 2), 0);
        is(crowded.process(2, 2), 0);
        is(crowded.exchange(5, 1), 3);
        is(shape(crowded), "0(2(3(1(4))) 5)");
        is(crowded.process(3, 3), 1);
        is(crowded.exchange(1, 5), 3);
        is(shape(crowded), "0(1(4) 2(3(5)))");
    }

    static void promise46() {
        OrphanTree x = tree(CHAIN);
        is(x.readAll(0), 0);
        is(x.count(9), 1);
        x.exit(4, 200);
        x.exit(2, 100);
        is(x.readAll(1), 300);
        is(x.count(3), 2);
        is(x.process(4, 0), 1);
        is(x.readAll(1), 0);
        is(x.count(9), 5);
        fails(STATE, () -> x.readAll(2));
        fails(BOUNDS, () -> x.readAll(5));
        fails(BOUNDS, () -> x.readAll(-1));
        is(x.count(9), 5);
    }

    static void promise47() {
        OrphanTree x = tree(CHAIN);
        is(x.testamentsBelow(0), 0);
        x.exit(3, 0);
        x.exit(4, 0);
        is(x.testamentsBelow(0), 2);
        is(x.testamentsBelow(1), 2);
        is(x.testamentsBelow(2), 1);
        is(x.testamentsBelow(3), 0);
        x.read(1);
        is(x.testamentsBelow(0), 1);
        is(x.testamentsBelow(4), 0);
        fails(BOUNDS, () -> x.testamentsBelow(5));
        fails(BOUNDS, () -> x.testamentsBelow(-1));
    }

    static void promise48() {
        OrphanTree x = tree(CHAIN);
        is(x.roomBelow(0), 3);
        is(x.roomBelow(1), 2);
        is(x.roomBelow(3), 0);
        x.exit(3, 0);
        is(x.roomBelow(1), 2);
        is(x.roomBelow(2), 0);
        is(x.roomBelow(3), 0);
        fails(BOUNDS, () -> x.roomBelow(5));
        fails(BOUNDS, () -> x.roomBelow(-1));
    }

    static void promise49() {
        OrphanTree x = tree("order;process 0 4 1 0;process 1 0 2 0;process 1 0 2 0;process 1 0 3 0;");
        is(x.mostAdopted(), -1);
        x.refuse(1, 3);
        is(x.mostAdopted(), 4);
        x.refuse(1, 2);
        is(x.mostAdopted(), 2);
        x.exit(2, 0);
        is(x.mostAdopted(), 3);
        x.accept(1, 3);
        x.move(4, 1);
        x.refuse(1, 3);
        is(x.mostAdopted(), 4);
        x.prune(0, 0);
        is(x.mostAdopted(), -1);
    }

    static void promise50() {
        OrphanTree x = tree(FAMILY);
        is(x.adopters(4), 3);
        is(x.adopters(2), 2);
        is(x.adopters(5), 2);
        is(x.adopters(1), 1);
        x.refuse(3, 2);
        is(x.count(1), 6);
        is(x.process(4, 0), 5);
        is(x.adopters(4), 1);
        fails(STATE, () -> x.adopters(0));
        x.exit(4, 0);
        fails(STATE, () -> x.adopters(4));
        fails(BOUNDS, () -> x.adopters(6));
        fails(BOUNDS, () -> x.adopters(-1));
        is(tree("deep 1;" + FAMILY).adopters(4), 0);
        is(tree("deep 2;" + FAMILY).adopters(4), 1);
        is(tree("deep 3;" + FAMILY).adopters(4), 3);
    }

    static void promise51() {
        OrphanTree x = tree("order;root 9 1;process 0 2 0 0;process 1 1 0 0;process 2 0 0 0;process 0 0 0 0;");
        is(x.betterCode(1), 1);
        is(x.betterCode(2), 0);
        is(x.betterCode(4), 0);
        is(x.count(9), 0);
        is(x.count(4), 0);
        fails(STATE, () -> x.betterCode(0));
        x.exit(4, 0);
        fails(STATE, () -> x.betterCode(4));
        fails(BOUNDS, () -> x.betterCode(5));
        fails(BOUNDS, () -> x.betterCode(-1));
        x.setBudget(0, 0);
        is(x.betterCode(1), 0);
    }

    static void promise52() {
        OrphanTree x = tree("root 9 1;process 0 1 3 9;process 1 1 3 0;process 0 1 1 1;process 3 0 3 0;");
        is(x.wouldRun(3, 0), 2);
        is(x.wouldRun(3, 1), 5);
        is(x.wouldRun(1, 0), 4);
        is(x.wouldRun(0, 0), 5);
        is(x.count(1), 5);
        is(x.count(9), 0);
        fails(ARGUMENT, () -> x.wouldRun(10, 0));
        fails(ARGUMENT, () -> x.wouldRun(-1, 0));
        fails(ARGUMENT, () -> x.wouldRun(0, 256));
        fails(ARGUMENT, () -> x.wouldRun(0, -1));
    }

    static void promise53() {
        OrphanTree x = tree(CHAIN);
        is(x.readShare(), 0.0);
        x.exit(4, 0);
        is(x.readShare(), 0.0);
        x.exit(2, 0);
        x.exit(3, 0);
        x.read(1);
        is(x.readShare(), 1.0 / 3.0);
        x.exit(1, 0);
        is(x.readShare(), 1.0);
    }

    static void promise54() {
        OrphanTree x = tree(CHAIN + "process 0 0 0 0;");
        is(x.apart(3, 4), 3);
        is(x.apart(4, 3), 3);
        is(x.apart(3, 5), 4);
        is(x.apart(1, 3), 2);
        is(x.apart(3, 0), 3);
        is(x.apart(2, 2), 0);
        x.exit(3, 0);
        is(x.apart(3, 4), 3);
        x.read(2);
        fails(STATE, () -> x.apart(3, 4));
        fails(STATE, () -> x.apart(4, 3));
        fails(BOUNDS, () -> x.apart(6, 3));
        fails(BOUNDS, () -> x.apart(3, -1));
    }

    static void promise55() {
        OrphanTree x = tree("order old;process 0 4 0 0;process 1 1 0 0;process 1 0 0 0;process 1 0 0 0;process 0 1 0 0;");
        is(x.relieve(1), 0);
        is(x.count(9), 1);
        x.setCapacity(1, 1);
        is(x.relieve(1), 2);
        supervisors(x, -1, 0, 1, 5, 2, 0);
        is(x.process(4, 12), 1);
        is(x.count(5), 2);
        is(x.count(6), 0);
        x.setCapacity(1, 0);
        is(x.relieve(1), 1);
        is(x.process(2, 0), 0);
        OrphanTree last = tree("order;process 0 9 0 0;");
        fillUp(last, 39);
        is(last.spawn(1, 0, 0, 0), 39);
        last.setCapacity(1, 0);
        is(last.relieve(1), 1);
        is(last.process(39, 0), 0);
        is(x.count(6), 1);
        is(x.count(9), 5);
        fails(STATE, () -> x.relieve(0));
        x.exit(3, 0);
        fails(STATE, () -> x.relieve(3));
        fails(BOUNDS, () -> x.relieve(6));
        fails(BOUNDS, () -> x.relieve(-1));
        is(x.count(9), 6);
    }

    static void promise56() {
        OrphanTree x = tree(FAMILY + "root 9 1;will 4 1 5;");
        is(x.wouldHold(0, 2, 0), 3);
        is(x.wouldHold(0, 3, 0), 2);
        is(x.wouldHold(1, 4, 0), 5);
        is(x.wouldHold(1, 4, 1), 6);
        is(x.wouldHold(7, 4, 1), 0);
        is(x.holder(0), 2);
        is(x.count(9), 0);
        fails(BOUNDS, () -> x.wouldHold(8, 6, 256));
        fails(BOUNDS, () -> x.wouldHold(8, -1, 0));
        fails(ARGUMENT, () -> x.wouldHold(8, 0, 0));
        fails(ARGUMENT, () -> x.wouldHold(-1, 1, 0));
        fails(ARGUMENT, () -> x.wouldHold(0, 0, 256));
        fails(ARGUMENT, () -> x.wouldHold(0, 1, -1));
        fails(STATE, () -> x.wouldHold(0, 0, 0));
        x.exit(4, 0);
        fails(STATE, () -> x.wouldHold(0, 4, 0));
    }

    static void promise57() {
        OrphanTree x = tree(CHAIN + "duty 0 2;duty 1 4;duty 2 3;heir 3 4;will 1 0 0;");
        is(x.dutyLife(7), 0);
        is(x.dutyLife(0), 4);
        is(x.dutyLife(1), 4);
        is(x.dutyLife(2), 4);
        is(x.holder(0), 2);
        is(x.count(1), 5);
        fails(ARGUMENT, () -> x.dutyLife(8));
        fails(ARGUMENT, () -> x.dutyLife(-1));
        x.setBudget(0, 9);
        x.give(3, 1);
        is(x.dutyLife(3), 4);
        OrphanTree chain = new OrphanTree();
        for (int i = 0; i < 39; i++) {
            chain.spawn(i, 1, 0, 0);
        }
        chain.give(0, 1);
        is(chain.dutyLife(0), 39);
    }

    static void promise58() {
        OrphanTree x = tree("process 0 1 0 0;process 0 2 0 0;process 2 1 0 0;process 0 2 0 0;process 4 1 0 0;process 1 0 0 0;");
        is(x.heaviest(0), 1);
        x.spawn(3, 0, 0, 0);
        is(x.heaviest(0), 2);
        x.spawn(5, 0, 0, 0);
        is(x.heaviest(0), 2);
        x.spawn(4, 0, 0, 0);
        is(x.heaviest(0), 4);
        is(x.heaviest(1), 6);
        is(x.heaviest(6), -1);
        x.exit(6, 0);
        is(x.heaviest(6), -1);
        is(x.heaviest(1), -1);
        fails(BOUNDS, () -> x.heaviest(10));
        fails(BOUNDS, () -> x.heaviest(-1));
    }

    static void promise59() {
        OrphanTree x = tree("process 0 3 1 0;process 1 2 9 0;process 2 1 3 0;process 1 0 4 0;process 0 0 0 0;");
        is(x.groupsBelow(0), 1 | 2 | 512 | 8 | 16);
        is(x.groupsBelow(1), 512 | 8 | 16);
        is(x.groupsBelow(3), 0);
        x.exit(3, 0);
        is(x.groupsBelow(1), 512 | 16);
        is(x.groupsBelow(3), 0);
        x.exit(5, 0);
        is(x.groupsBelow(0), 2 | 512 | 16);
        fails(BOUNDS, () -> x.groupsBelow(6));
        fails(BOUNDS, () -> x.groupsBelow(-1));
    }

    static void promise60() {
        OrphanTree x = tree("process 0 3 1 0;process 1 2 1 0;process 1 1 3 0;process 1 0 4 0;process 0 0 0 0;process 2 0 2 0;");
        is(x.strangers(0), 1);
        is(x.strangers(1), 2);
        is(x.strangers(2), 1);
        x.exit(4, 0);
        is(x.strangers(1), 1);
        is(x.strangers(4), 0);
        fails(BOUNDS, () -> x.strangers(7));
        fails(BOUNDS, () -> x.strangers(-1));
    }

    static void promise61() {
        OrphanTree x = tree(CHAIN + "duty 0 1;duty 3 1;duty 7 1;process 0 9 0 0;");
        is(printed(x, 0, 0), "0");
        is(printed(x, 3, 0), "0/1/2/3");
        is(printed(x, 1, 1), "2,4");
        is(printed(x, 3, 1), "-");
        is(printed(x, 0, 2), "0(1(2(3) 4) 5)");
        is(printed(x, 1, 2), "1(2(3) 4)");
        is(printed(x, 4, 2), "4");
        is(printed(x, 1, 3), "037");
        is(printed(x, 2, 3), "-");
        is(printed(x, 1, 4), "-");
        x.exit(4, 255);
        x.exit(2, 0);
        is(printed(x, 1, 4), "4:255,2:0");
        is(printed(x, 4, 0), "0/1/4");
        is(printed(x, 4, 1), "-");
        is(printed(x, 4, 2), "4");
        is(printed(x, 4, 3), "-");
        is(printed(x, 4, 4), "-");
        is(x.count(9), 2);
        x.read(1);
        is(printed(x, 0, 0), "0");
        fails(BOUNDS, () -> x.print(6, 5));
        fails(BOUNDS, () -> x.print(-1, 0));
        fails(ARGUMENT, () -> x.print(4, 5));
        fails(ARGUMENT, () -> x.print(1, -1));
        fails(STATE, () -> x.print(4, 0));
        is(x.outputByte(0), (int) '0');
        is(x.outputByte(1), -1);
        longOutputs();
    }

    private static void longOutputs() {
        OrphanTree chain = new OrphanTree();
        StringBuilder path = new StringBuilder("0");
        for (int i = 0; i < 39; i++) {
            chain.spawn(i, 1, 0, 0);
            path.append('/').append(i + 1);
        }
        is(printed(chain, 39, 0), path.toString());
        is(shape(chain), path.toString().replace('/', '(') + ")".repeat(39));
        OrphanTree wide = tree("process 0 9 0 0;");
        StringBuilder zombies = new StringBuilder();
        for (int p = 2; p < 40; p++) {
            is(wide.spawn(1, 0, 0, 0), p);
            wide.exit(p, 98 + p);
            zombies.append(p == 2 ? "" : ",").append(p).append(':').append(98 + p);
        }
        is(printed(wide, 1, 4), zombies.toString());
    }

    static void promise62() {
        OrphanTree x = tree(CHAIN);
        is(x.outputByte(0), -1);
        is(x.print(3, 0), 7);
        is(x.outputByte(6), (int) '3');
        is(x.outputByte(5), (int) '/');
        is(x.outputByte(7), -1);
        is(x.outputByte(-1), -1);
        is(x.outputByte(Integer.MAX_VALUE), -1);
        is(x.outputByte(Integer.MIN_VALUE), -1);
        x.print(1, 1);
        is(x.outputByte(0), (int) '2');
        is(x.outputByte(3), -1);
        x.exit(4, 0);
        x.saveState();
        x.undo();
        x.restoreState();
        is(x.outputByte(2), (int) '4');
    }

    static void promise63() {
        OrphanTree x = tree(FAMILY + "root 9 2;");
        is(x.undo(), -1);
        x.exit(4, 1);
        x.exit(3, 1);
        x.readAll(1);
        x.refuse(1, 2);
        is(x.process(6, 12), 2);
        x.kill(1, 3);
        is(x.undo(), 4);
        is(x.undo(), 3);
        is(x.process(6, 12), 1);
        is(x.undo(), 2);
        is(x.count(2), 2);
        is(x.undo(), 1);
        is(x.undo(), 0);
        is(x.undo(), -1);
        is(shape(x), "0(1(2 3(4)) 5)");
        int[] due = {6, 6, 0, 0, 0, 0, 0, 0, 6, 0, 20};
        for (int what = 0; what < due.length; what++) {
            is(x.count(what), due[what]);
        }
        is(x.process(4, 13), -1);
        is(x.process(4, 10), -1);
        is(x.process(3, 7), 1);
        is(x.holder(1), 4);
        for (int i = 0; i < 23; i++) {
            x.setCapacity(1, i % 10);
        }
        for (int i = 9; i >= 0; i--) {
            is(x.undo(), i);
        }
        is(x.undo(), -1);
        is(x.process(1, 1), 2);
        x.setCapacity(1, 7);
        x.setBudget(1, 7);
        is(x.undo(), 1);
        x.setBudget(1, 8);
        is(x.undo(), 1);
        is(x.process(1, 7), 0);
        is(x.undo(), 0);
        is(x.process(1, 1), 2);
        everyChange();
    }

    private static void everyChange() {
        OrphanTree x = tree(FAMILY + "process 0 3 2 0;");
        Call[] changes = {() -> x.spawn(0, 1, 1, 1), () -> x.exit(4, 0), () -> x.kill(9, 0), () -> x.refuse(1, 9),
            () -> x.accept(0, 3), () -> x.move(1, 0), () -> x.setCapacity(1, 2), () -> x.setBudget(1, 0),
            () -> x.setHeir(1, -1), () -> x.give(7, 0), () -> x.prune(4, 0), () -> x.exchange(1, 5),
            () -> x.readAll(0), () -> x.relieve(1)};
        for (Call change : changes) {
            change.answer();
            is(x.count(9), 1);
            is(x.undo(), 0);
            is(shape(x), "0(1(2 3(4)) 5 6)");
        }
    }

    static void promise64() {
        OrphanTree x = tree(FAMILY);
        is(x.saveState(), 6);
        is(x.count(9), 0);
        x.exit(4, 0);
        is(x.saveState(), 5);
        is(x.count(9), 1);
        is(x.undo(), 0);
        is(x.count(1), 6);
        is(x.restoreState(), 5);
        is(x.process(4, 5), 1);
        is(x.exited(0), 4);
        write(x, "deep 3;");
        x.saveState();
        is(load(x, "bad"), -1);
        is(x.restoreState(), 5);
        is(x.errorCode(), 1);
    }

    static void promise65() {
        OrphanTree x = tree(FAMILY);
        fails(STATE, x::restoreState);
        x.give(4, 5);
        x.saveState();
        x.exit(1, 1);
        x.kill(2, 0);
        is(x.restoreState(), 6);
        is(x.count(9), 0);
        is(x.undo(), -1);
        is(shape(x), "0(1(2 3(4)) 5)");
        is(x.holder(4), 5);
        is(x.count(4), 0);
        x.setBudget(1, 9);
        is(x.restoreState(), 6);
        is(x.process(1, 7), 0);
        write(x, "deep 3;");
        x.restoreState();
        is(x.truncateInput(7), true);
        is(x.loadTree(), 1);
        fails(STATE, x::restoreState);
    }
}
