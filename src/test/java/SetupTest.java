/** The boundary cases of the input buffer and of the setup text: "Terms" from "Setup text" on, and the promises 1 to 6. */
public final class SetupTest extends Checks {
    private static final String ONE = "process 0 2 1 0;";
    private static final String BLANKS = " ".repeat(500);

    private SetupTest() {
    }

    public static void main(String[] args) throws ReflectiveOperationException {
        checkSentences(SetupTest.class);
    }

    private static int appendBlanks(OrphanTree x) {
        return x.appendInput(0x20202020, 0x20202020, 0x20202020, 0x20202020, 0x20202020);
    }

    /** What is refused with an error of one code, stays refused with blanks before it, and is told there. */
    private static void refusedAnywhere(String text, int code, int offset) {
        refused(text, code, offset);
        refused("\n  " + text, code, offset + 3);
        refused(text.replace(" ", "  "), code, offset + (int) text.substring(0, offset).chars().filter(c -> c == ' ').count());
    }

    // The input buffer.

    @Says("The input buffer holds at most 500 bytes")
    static void theBufferHoldsFiveHundredBytes() {
        OrphanTree x = new OrphanTree();
        for (int length = 20; length <= 500; length += 20) {
            is(appendBlanks(x), length);
        }
        is(appendBlanks(x), -1);
        is(x.truncateInput(501), false);
        is(x.truncateInput(500), true);
    }

    @Says("Returns the new length of the input buffer; -1, with no change, if it would exceed 500")
    static void appendingUpToFiveHundred() {
        for (int length = 478; length <= 500; length++) {
            OrphanTree x = new OrphanTree();
            write(x, BLANKS.substring(0, length));
            is(appendBlanks(x), length <= 480 ? length + 20 : -1);
            int now = length <= 480 ? length + 20 : length;
            is(x.truncateInput(now + 1), false);
            is(x.truncateInput(now), true);
        }
    }

    @Says("Returns the new length of the input buffer; -1, with no change, if it would exceed 500")
    static void aRefusedAppendLeavesTheBytes() {
        OrphanTree x = new OrphanTree();
        write(x, "deep 4;" + BLANKS.substring(0, 490));
        is(x.appendInput(0x78787878, 0x78787878, 0x78787878, 0x78787878, 0x78787878), -1);
        is(x.loadTree(), 1);
        is(x.count(10), 4);
    }

    @Says("the four bytes of each parameter, the most significant byte first")
    static void theBytesOfAParameter() {
        OrphanTree x = new OrphanTree();
        is(x.appendInput(0x64656570, 0x20200a31, 0x203b6475, 0x74792037, 0x20303b20), 20);
        is(x.loadTree(), 1);
        is(x.count(10), 1);
        for (int sign : new int[] {0, 0x80, 0xff}) {
            for (int at = 0; at < 4; at++) {
                int word = 0x20202020 & ~(255 << 8 * at) | sign << 8 * at;
                for (int place = 0; place < 5; place++) {
                    x.appendInput(place == 0 ? word : 0x20202020, place == 1 ? word : 0x20202020, place == 2 ? word : 0x20202020,
                        place == 3 ? word : 0x20202020, place == 4 ? word : 0x20202020);
                    is(x.loadTree(), -1);
                    is(x.errorCode(), 1);
                    is(x.errorOffset(), 4 * place + 3 - at);
                }
            }
        }
    }

    @Says("Returns true; false, with no change, if length is negative or greater than the current length")
    static void truncating() {
        OrphanTree x = new OrphanTree();
        is(x.truncateInput(0), true);
        is(x.truncateInput(-1), false);
        is(x.truncateInput(1), false);
        write(x, "deep 12;");
        is(x.truncateInput(-1), false);
        is(x.truncateInput(9), false);
        is(x.truncateInput(Integer.MIN_VALUE), false);
        is(x.truncateInput(Integer.MAX_VALUE), false);
        is(x.truncateInput(8), true);
        is(x.loadTree(), 1);
        is(x.count(10), 12);
        write(x, "deep 13;deep");
        is(x.truncateInput(8), true);
        is(x.truncateInput(9), false);
        is(x.loadTree(), 1);
        is(x.count(10), 13);
        write(x, "deep 14;");
        is(x.truncateInput(0), true);
        is(x.truncateInput(1), false);
        is(x.loadTree(), 1);
        is(x.count(10), 20);
    }

    @Says("Loads a setup from the input buffer and empties the buffer, whether the load succeeds or not")
    static void aLoadEmptiesTheBuffer() {
        OrphanTree x = new OrphanTree();
        is(load(x, ONE), 2);
        is(x.truncateInput(1), false);
        is(appendBlanks(x), 20);
        is(load(x, "deep 21;deep 4;"), -1);
        is(x.truncateInput(1), false);
        is(x.loadTree(), 1);
    }

    @Says("Creates a tree as if an empty text was loaded (the root alone), with an empty input buffer")
    static void anEmptyText() {
        for (String text : new String[] {null, "", " ", "\n", BLANKS}) {
            OrphanTree x = new OrphanTree();
            is(text == null ? 1 : load(x, text), 1);
            counts(x, 1, 1, 0, 0, 0, 0, 0, 0, 8, 0, 20);
            properties(x, 0, -1, 9, 9, 0, 0, 0, 0, 0, -1, 255, -1, 0, 0, -1, 0);
            is(x.errorCode(), 0);
            is(x.errorOffset(), -1);
            is(x.truncateInput(1), false);
            is(x.undo(), -1);
            fails(STATE, x::restoreState);
            fails(ELEMENT, () -> x.exited(0));
            fails(ELEMENT, () -> x.walked(1));
            fails(BOUNDS, () -> x.process(1, 0));
            is(x.rule(2), 2);
            is(x.rule(3), -1);
            is(x.outputByte(0), -1);
        }
    }

    // Statements.

    @Says("The text is a sequence of statements, each followed by a semicolon")
    static void semicolons() {
        refusedAnywhere("deep 3", 1, 6);
        refusedAnywhere("deep 3;;", 1, 7);
        refusedAnywhere(";", 1, 0);
        refusedAnywhere("deep 3 root 1 1;", 1, 7);
        refusedAnywhere("order", 1, 5);
        refusedAnywhere("order old", 1, 9);
        refusedAnywhere("root 1 1", 1, 8);
        refusedAnywhere("process 0 1 1 1", 1, 15);
        refusedAnywhere(ONE + "heir 1 0", 1, 24);
        refusedAnywhere("duty 0 0", 1, 8);
        refusedAnywhere(ONE + "refuse 1 0", 1, 26);
        refusedAnywhere(ONE + "will 1 0 0", 1, 26);
        is(load(new OrphanTree(), "deep 3;root 1 1;"), 1);
    }

    @Says("at most once; RULE is one of the words near, group, room, kin and old, each at most once; without the statement near"
        + " group room")
    static void order() {
        String[] rules = {"near", "group", "room", "kin", "old"};
        for (int i = 0; i < 5; i++) {
            OrphanTree x = tree("order " + rules[i] + ";");
            is(x.rule(0), i);
            is(x.rule(1), -1);
            refusedAnywhere("order " + rules[i] + " " + rules[i] + ";", 3, 7 + rules[i].length());
            refusedAnywhere("order old kin room group near " + rules[i] + ";", 3, 30);
        }
        is(tree("order;").rule(0), -1);
        OrphanTree all = tree("order old kin room group near;");
        for (int i = -1; i <= 5; i++) {
            is(all.rule(i), i < 0 || i > 4 ? -1 : 4 - i);
        }
        refusedAnywhere("order;order;", 3, 6);
        refusedAnywhere("order old;deep 3;order kin;", 3, 17);
        refusedAnywhere("order older;", 1, 6);
        refusedAnywhere("order 0;", 1, 6);
        refusedAnywhere("order deep 3;", 1, 6);
        refusedAnywhere("order old kin room group near far;", 1, 30);
        refusedAnywhere("order old kin room group near 0;", 1, 30);
        OrphanTree none = tree("deep 3;");
        for (int i = 0; i < 4; i++) {
            is(none.rule(i), i < 3 ? i : -1);
        }
    }

    @Says("at most once: 1 to 20; 20 without the statement")
    static void deep() {
        is(tree("deep 1;").count(10), 1);
        is(tree("deep 20;").count(10), 20);
        is(tree("deep 01;").count(10), 1);
        is(tree(ONE).count(10), 20);
        refusedAnywhere("deep 0;", 2, 5);
        refusedAnywhere("deep 00;", 2, 5);
        refusedAnywhere("deep 21;", 2, 5);
        refusedAnywhere("deep 99;", 2, 5);
        refusedAnywhere("deep 3;deep 3;", 3, 7);
        refusedAnywhere("deep;", 1, 4);
    }

    @Says("at most once: the capacity (0 to 9) and the budget (0 to 9) of the root")
    static void root() {
        properties(tree("root 0 0;"), 0, -1, 0, 0, 0, 0, 0, 0, 0);
        properties(tree("root 9 9;"), 0, -1, 9, 9, 0, 0, 0, 0, 9);
        properties(tree("root 09 00;"), 0, -1, 9, 9, 0, 0, 0, 0, 0);
        refusedAnywhere("root 10 0;", 2, 5);
        refusedAnywhere("root 0 10;", 2, 7);
        refusedAnywhere("root 0 0;root 0 0;", 3, 9);
        refusedAnywhere("root 0;", 1, 6);
    }

    @Says("the supervisor (told before, 0 for the root, with room), the capacity, the group, the budget; the processes get the"
        + " numbers 1, 2 and so on")
    static void process() {
        OrphanTree x = tree("process 0 0 9 0;process 0 9 0 9;process 2 1 2 3;");
        properties(x, 1, 0, 0, 0, 0, 0, 0, 9, 0, -1, 0, -1, 0, 0, -1, 0);
        properties(x, 2, 0, 9, 8, 1, 0, 0, 0, 9, -1, 0, -1, 0, 0, -1, 0);
        properties(x, 3, 2, 1, 1, 0, 0, 0, 2, 3, -1, 0, -1, 0, 0, -1, 0);
        counts(x, 4, 4, 0, 0, 0, 0, 0, 0, 8, 0, 20);
        refusedAnywhere("process 1 0 0 0;", 2, 8);
        refusedAnywhere(ONE + "process 2 0 0 0;", 2, 24);
        refusedAnywhere("process 0 10 0 0;", 2, 10);
        refusedAnywhere("process 0 0 10 0;", 2, 12);
        refusedAnywhere("process 0 0 0 10;", 2, 14);
    }

    @Says("a supervisor without room")
    static void aSupervisorWithoutRoom() {
        refusedAnywhere("root 0 0;process 0 0 0 0;", 2, 17);
        refusedAnywhere("process 0 0 0 0;process 1 0 0 0;", 2, 24);
        is(load(new OrphanTree(), "process 0 1 0 0;process 1 0 0 0;"), 3);
        refusedAnywhere("process 0 1 0 0;process 1 0 0 0;process 1 0 0 0;", 2, 40);
        is(load(new OrphanTree(), processes(9)), 10);
        refusedAnywhere(processes(9) + "process 0 0 0 0;", 2, 152);
    }

    @Says("a process (not the root, without an heir told before) and its heir, another process; both told before (the heir may"
        + " be the root)")
    static void heir() {
        String two = ONE + "process 0 0 0 0;";
        is(tree(two + "heir 1 2;heir 2 1;").process(1, 8), 2);
        is(tree(two + "heir 1 0;").process(1, 8), 0);
        is(tree(two).process(1, 8), -1);
        refusedAnywhere(two + "heir 0 1;", 2, 37);
        refusedAnywhere(two + "heir 3 1;", 2, 37);
        refusedAnywhere(two + "heir 1 3;", 2, 39);
        refusedAnywhere(two + "heir 1 1;", 2, 39);
        refusedAnywhere(two + "heir 1 0;heir 1 2;", 3, 46);
        refusedAnywhere("heir 1 0;" + ONE, 2, 5);
        refusedAnywhere(ONE + "heir 1 2;process 0 0 0 0;", 2, 23);
    }

    @Says("a duty and its holder, told before (the last one counts)")
    static void duty() {
        OrphanTree x = tree(ONE + "process 0 0 0 0;duty 0 1;duty 7 2;duty 3 1;duty 3 2;duty 4 2;duty 4 1;duty 5 1;duty 5 0;");
        is(x.process(1, 9), 1 | 16);
        is(x.process(2, 9), 128 | 8);
        is(x.count(8), 4);
        refusedAnywhere(ONE + "duty 8 1;", 2, 21);
        refusedAnywhere(ONE + "duty 0 2;", 2, 23);
        refusedAnywhere("duty 0 1;" + ONE, 2, 7);
    }

    @Says("a process told before (not the root) and a group (children of the group stay where they are told)")
    static void refuse() {
        OrphanTree x = tree(ONE + "process 1 0 3 0;refuse 1 3;refuse 1 0;refuse 1 9;process 1 0 3 0;");
        is(x.process(1, 11), 1 | 8 | 512);
        supervisors(x, -1, 0, 1, 1);
        is(x.count(5), 0);
        refusedAnywhere(ONE + "refuse 0 1;", 2, 23);
        refusedAnywhere(ONE + "refuse 2 1;", 2, 23);
        refusedAnywhere(ONE + "refuse 1 10;", 2, 25);
        refusedAnywhere(ONE + "refuse 1 9;refuse 1 9;", 3, 36);
        refusedAnywhere("refuse 1 1;" + ONE, 2, 7);
        is(tree(ONE + "process 0 1 0 0;refuse 1 9;refuse 2 9;").process(2, 11), 512);
    }

    @Says("a process told before (not the root), a duty, and the process to which it leaves this duty, another one told before"
        + " (the root may be it)")
    static void will() {
        String two = ONE + "process 0 0 0 0;";
        OrphanTree x = tree(two + "will 1 0 2;will 1 7 0;will 2 0 1;");
        is(x.process(1, 14), 129);
        is(x.process(2, 14), 1);
        is(x.process(0, 14), 0);
        refusedAnywhere(two + "will 0 0 1;", 2, 37);
        refusedAnywhere(two + "will 3 0 1;", 2, 37);
        refusedAnywhere(two + "will 1 8 2;", 2, 39);
        refusedAnywhere(two + "will 1 0 3;", 2, 41);
        refusedAnywhere(two + "will 1 0 1;", 2, 41);
        refusedAnywhere(two + "will 1 7 2;will 1 7 0;", 3, 50);
        refusedAnywhere("will 1 0 0;" + ONE, 2, 5);
    }

    @Says("There are at most 24 statements of processes")
    static void twentyFourProcesses() {
        OrphanTree x = new OrphanTree();
        is(load(x, processes(24)), 25);
        is(x.spawn(24, 0, 0, 0), 25);
        refusedAnywhere(processes(25), 4, 384);
        is(load(x, processes(23)), 24);
    }

    @Says("A process that was not told before is out of its range, also one that must not be the root, a supervisor without room,"
        + " an heir (or whom a will names) that is the process itself")
    static void processesOutOfRange() {
        for (int p : new int[] {2, 9, 10, 40, 99}) {
            refusedAnywhere(ONE + "process " + p + " 0 0 0;", 2, 24);
            refusedAnywhere(ONE + "heir " + p + " 0;", 2, 21);
            refusedAnywhere(ONE + "heir 1 " + p + ";", 2, 23);
            refusedAnywhere(ONE + "duty 0 " + p + ";", 2, 23);
            refusedAnywhere(ONE + "refuse " + p + " 0;", 2, 23);
            refusedAnywhere(ONE + "will " + p + " 0 0;", 2, 21);
            refusedAnywhere(ONE + "will 1 0 " + p + ";", 2, 25);
        }
        refusedAnywhere(ONE + "heir 0 1;", 2, 21);
        refusedAnywhere(ONE + "refuse 0 1;", 2, 23);
        refusedAnywhere(ONE + "will 0 1 1;", 2, 21);
        refusedAnywhere(ONE + "process 1 0 0 0;process 2 0 0 0;", 2, 40);
        refusedAnywhere(ONE + "heir 1 1;", 2, 23);
        refusedAnywhere(ONE + "will 1 0 1;", 2, 25);
        refusedAnywhere(ONE + "heir 01 01;", 2, 24);
    }

    // Tokens.

    @Says("Tokens are words (maximal runs of the letters a to z)")
    static void words() {
        refusedAnywhere("dee 1;", 1, 0);
        refusedAnywhere("deepp 1;", 1, 0);
        refusedAnywhere("order nearold;", 1, 6);
        refusedAnywhere("orderold;", 1, 0);
        refusedAnywhere("processes 0 1 1 1;", 1, 0);
        refused("Deep 1;", 1, 0);
        refused("deeP 1;", 1, 0);
        refused("de ep 1;", 1, 0);
        refused("deep` 1;", 1, 4);
        refused("deep{ 1;", 1, 4);
        refused("order a;", 1, 6);
        refused("order z;", 1, 6);
        refused("deepz 1;", 1, 0);
        refused("adeep 1;", 1, 0);
        refused("order oldz;", 1, 6);
        refused("order aold;", 1, 6);
    }

    @Says("SYNTAX: a token that cannot stand at its place")
    static void wordsWithOneOtherLetter() {
        String[] statements = {"order;", "deep 1;", "root 1 1;", "process 0 1 1 1;", "heir 1 0;", "duty 1 1;", "refuse 1 1;",
            "will 1 1 0;"};
        for (String statement : statements) {
            is(load(new OrphanTree(), ONE + statement) > 0, true);
            for (int i = 0; Character.isLetter(statement.charAt(i)); i++) {
                refused(ONE + statement.substring(0, i) + "z" + statement.substring(i + 1), 1, 16);
                refused(ONE + statement.substring(0, i) + statement.substring(i + 1), 1, 16);
            }
        }
        for (String rule : new String[] {"near", "group", "room", "kin", "old"}) {
            for (int i = 0; i < rule.length(); i++) {
                refused("order " + rule.substring(0, i) + "z" + rule.substring(i + 1) + ";", 1, 6);
                refused("order " + rule.substring(0, i) + rule.substring(i + 1) + ";", 1, 6);
            }
        }
    }

    @Says("numbers (maximal runs of digits, 1 to 2 of them)")
    static void numbers() {
        is(tree("deep 7;").count(10), 7);
        is(tree("deep 17;").count(10), 17);
        is(tree("deep 07;").count(10), 7);
        refusedAnywhere("deep 007;", 1, 5);
        refusedAnywhere("deep 100;", 1, 5);
        refusedAnywhere("deep 0 7;", 2, 5);
        refused("deep 1 7;", 1, 7);
        refused("deep 4294967297;", 1, 5);
        refused("deep " + "1".repeat(494) + ";", 1, 5);
        refused("deep 1/;", 1, 6);
        refused("deep 1:;", 1, 6);
        refused("deep +1;", 1, 5);
        refused("deep -1;", 1, 5);
    }

    @Says("Spaces (32) and line feeds (10) may stand between tokens")
    static void blanks() {
        is(load(new OrphanTree(), "deep3;root9 9;process0 1 1 1;heir1 0;order;"), 2);
        is(load(new OrphanTree(), "\n deep\n3\n ;\n\n  order  old\nkin;\n"), 1);
        for (int sign = 0; sign < 256; sign++) {
            OrphanTree x = new OrphanTree();
            boolean fits = sign == 32 || sign == 10 || sign == '0' || sign == '1';
            is(load(x, "deep " + (char) sign + "3;"), fits ? 1 : -1);
            is(x.errorOffset(), fits ? -1 : 5);
            is(x.errorCode(), fits ? 0 : sign >= '2' && sign <= '9' ? 2 : 1);
        }
    }

    // Errors.

    @Says("A text is parsed from left to right, and the first error met is reported")
    static void theFirstErrorIsTold() {
        refusedAnywhere("deep 0;order order;", 2, 5);
        refusedAnywhere("deep 21", 2, 5);
        refusedAnywhere("deep x 21;", 1, 5);
        refusedAnywhere("order;order x;", 3, 6);
        refusedAnywhere("deep 1;deep 0;", 3, 7);
        refusedAnywhere("root 10 10;", 2, 5);
        refusedAnywhere("process 1 10 10 10;", 2, 8);
        refusedAnywhere(ONE + "heir 1 0;heir 1 1;", 3, 30);
        refusedAnywhere(ONE + "heir 2 2;", 2, 21);
        refusedAnywhere(ONE + "will 1 1 0;will 1 1 1;", 3, 34);
        refusedAnywhere(ONE + "will 1 8 1;", 2, 23);
        refusedAnywhere(processes(24) + "process", 4, 384);
        refusedAnywhere(processes(24) + "process 99 x", 4, 384);
        refused("deep 3?0;", 1, 6);
    }

    @Says("if several errors apply to one token, the one with the smallest code")
    static void theSmallestCodeOfAToken() {
        refusedAnywhere("deep 100;", 1, 5);
        refusedAnywhere("process 100 0 0 0;", 1, 8);
        refusedAnywhere(ONE + "heir 1 0;heir 001 0;", 1, 30);
        refusedAnywhere(ONE + "refuse 1 3;refuse 1 003;", 1, 36);
        refusedAnywhere(ONE + "will 1 3 0;will 1 003 0;", 1, 34);
        refusedAnywhere(ONE + "heir 1 0;heir 100 0;", 1, 30);
        refusedAnywhere("order;deep order;", 1, 11);
        refusedAnywhere("deep 1;root deep;", 1, 12);
        refusedAnywhere("root 1 1;root root;", 3, 9);
        refusedAnywhere("root 1 1;deep 1 root;", 1, 16);
        refusedAnywhere("order order;", 1, 6);
        refusedAnywhere(processes(24) + "deep process;", 1, 389);
        refusedAnywhere(processes(24) + "deep 1 process;", 1, 391);
        refusedAnywhere(ONE + "order near;heir near;", 1, 32);
        refusedAnywhere(ONE + "heir 1 0;heir 0 0;", 2, 30);
        refusedAnywhere(ONE + "heir 1 0;heir 2 0;", 2, 30);
        refusedAnywhere(ONE + "will 1 3 0;will 1 8 0;", 2, 34);
    }

    @Says("SYNTAX: a token that cannot stand at its place, a number that is too long, a byte that belongs to no token, or the end"
        + " of the text where more is required. The offset is that of the first byte of the token, or the length of the text")
    static void syntaxErrors() {
        refusedAnywhere("x;", 1, 0);
        refusedAnywhere("12;", 1, 0);
        refusedAnywhere("deep deep;", 1, 5);
        refusedAnywhere("deep ;", 1, 5);
        refusedAnywhere("order old 1;", 1, 10);
        refusedAnywhere("deep 123;", 1, 5);
        refusedAnywhere("deep 3%;", 1, 6);
        refusedAnywhere("%", 1, 0);
        refusedAnywhere("deep", 1, 4);
        refusedAnywhere("process 0 1", 1, 11);
        refused("deep    ", 1, 8);
        refused("deep 3\n\n\n", 1, 9);
        refused(BLANKS.substring(6) + "deep 1", 1, 500);
        refused(BLANKS.substring(7) + "deep 1 ", 1, 500);
        refused(BLANKS.substring(1) + "x", 1, 499);
        is(load(new OrphanTree(), BLANKS.substring(7) + "deep 1;"), 1);
    }

    @Says("OUT_OF_RANGE: a number out of its range, at its first byte")
    static void rangeErrors() {
        refusedAnywhere("deep 21;", 2, 5);
        refused("deep\n\n 99;", 2, 7);
        refusedAnywhere("root 10 0;", 2, 5);
        refusedAnywhere("duty 10 0;", 2, 5);
        refusedAnywhere(ONE + "will 1 10 0;", 2, 23);
        refusedAnywhere(ONE + "refuse 1 99;", 2, 25);
    }

    @Says("TWICE: a RULE that stands there already; the first word of a second order, deep or root; the process of an heir that"
        + " has one already; the group that a process refuses already; the duty for which a process has a will already")
    static void twiceErrors() {
        refusedAnywhere("order old near old;", 3, 15);
        refusedAnywhere("order;deep 1;order;", 3, 13);
        refusedAnywhere("deep 20;deep 20;", 3, 8);
        refusedAnywhere("root 9 0;deep 1;root 9 0;", 3, 16);
        refusedAnywhere(ONE + "heir 1 0;heir 1 0;", 3, 30);
        refusedAnywhere(ONE + "refuse 1 0;refuse 1 0;", 3, 36);
        refusedAnywhere(ONE + "will 1 0 0;will 1 0 0;", 3, 34);
        String fine = ONE + "process 0 1 1 1;heir 1 0;heir 2 0;refuse 1 0;refuse 1 1;refuse 2 0;will 1 0 0;will 1 1 0;will 2 0 0;";
        is(load(new OrphanTree(), fine + "duty 0 1;duty 0 1;"), 3);
    }

    @Says("TOO_MANY: the first word of a 25th process")
    static void tooManyErrors() {
        refused(processes(25), 4, 384);
        refused(processes(24) + "\n process 0 0 0 0;", 4, 386);
        refused(processes(24) + "deep 3;process", 4, 391);
        refused(processes(24) + "processx", 1, 384);
        is(load(new OrphanTree(), processes(24) + "deep 3;"), 25);
    }

    @Says("An error changes nothing but the input buffer and the reported error")
    static void anErrorChangesNothing() {
        OrphanTree x = tree(ONE + "process 1 1 1 1;deep 7;order kin;duty 3 1;root 8 2;");
        x.exit(2, 3);
        x.saveState();
        x.setBudget(1, 5);
        int length = x.print(0, 2);
        for (String text : new String[] {"root 1 1;deep 3;order old;process 0 1 1 1;duty 0 1;x", "deep 0;", "order;order;",
            processes(25)}) {
            is(load(x, text), -1);
            counts(x, 3, 2, 1, 0, 1, 0, 0, 0, 7, 2, 7);
            properties(x, 0, -1, 8, 7, 1, 0, 0, 0, 2, -1, 247, -1, 0, 0, -1, 0);
            is(x.rule(0), 3);
            is(output(x).length(), length);
        }
        is(x.errorCode(), 4);
        is(x.errorOffset(), 384);
        is(x.undo(), 1);
        is(x.process(1, 7), 0);
        is(x.restoreState(), 2);
        is(x.process(2, 10), 3);
    }

    @Says("A successful load replaces everything: nothing has exited, nothing is counted, nothing can be undone, and no state is"
        + " saved")
    static void aLoadReplacesEverything() {
        OrphanTree x = tree("root 4 1;deep 2;order;process 0 2 1 1;process 1 1 1 1;heir 1 2;refuse 1 3;will 1 1 2;duty 1 2;");
        x.exit(1, 1);
        x.exit(2, 1);
        x.exit(3, 0);
        x.refuse(4, 2);
        x.saveState();
        x.print(0, 2);
        is(load(x, ONE + ONE), 3);
        counts(x, 3, 3, 0, 0, 0, 0, 0, 0, 8, 0, 20);
        properties(x, 0, -1, 9, 7, 2, 0, 0, 0, 0, -1, 255, -1, 0, 0, -1, 0);
        properties(x, 1, 0, 2, 2, 0, 0, 0, 1, 0, -1, 0, -1, 0, 0, -1, 0);
        properties(x, 2, 0, 2, 2, 0, 0, 0, 1, 0, -1, 0, -1, 0, 0, -1, 0);
        fails(BOUNDS, () -> x.process(3, 0));
        fails(ELEMENT, () -> x.exited(0));
        is(x.rule(0), 0);
        is(x.rule(2), 2);
        is(x.undo(), -1);
        fails(STATE, x::restoreState);
        is(x.outputByte(0), -1);
        is(x.rootShare(), 0.0f);
        is(x.readShare(), 0.0);
        is(x.mostAdopted(), -1);
        is(x.spawn(0, 0, 0, 0), 3);
    }

    @Says("A successful load replaces everything")
    static void nothingOfATextIsLeftInTheNextOne() {
        String all = "order old;deep 2;root 7 3;" + ONE + ONE + "heir 1 2;duty 0 1;duty 7 2;refuse 1 0;will 1 0 2;";
        for (String text : new String[] {all, all + "x"}) {
            OrphanTree x = new OrphanTree();
            is(load(x, text), text.equals(all) ? 3 : -1);
            is(load(x, all), 3);
            is(load(x, text), text.equals(all) ? 3 : -1);
            is(load(x, ONE + ONE), 3);
            counts(x, 3, 3, 0, 0, 0, 0, 0, 0, 8, 0, 20);
            properties(x, 0, -1, 9, 7, 2, 0, 0, 0, 0, -1, 255, -1, 0, 0, -1, 0);
            properties(x, 1, 0, 2, 2, 0, 0, 0, 1, 0, -1, 0, -1, 0, 0, -1, 0);
            is(x.rule(0), 0);
            is(x.holder(0), 0);
            is(x.holder(7), 0);
            is(load(x, ""), 1);
            counts(x, 1, 1, 0, 0, 0, 0, 0, 0, 8, 0, 20);
            is(x.allRoom(), 9);
            is(shape(x), "0");
            is(x.spawn(0, 0, 0, 0), 1);
        }
    }

    @Says("Returns the number of processes, the root included; -1 if there is an error")
    static void whatALoadReturns() {
        OrphanTree x = new OrphanTree();
        is(load(x, ""), 1);
        is(load(x, ONE), 2);
        is(load(x, processes(24)), 25);
        is(load(x, processes(25)), -1);
        is(load(x, "x"), -1);
        is(x.count(0), 25);
    }

    @Says("Returns an error code; NO_ERROR if that call succeeded or there was no call")
    static void theErrorCode() {
        OrphanTree x = new OrphanTree();
        is(x.errorCode(), OrphanTree.NO_ERROR);
        load(x, "x");
        is(x.errorCode(), OrphanTree.SYNTAX);
        load(x, "deep 0;");
        is(x.errorCode(), OrphanTree.OUT_OF_RANGE);
        load(x, "order;order;");
        is(x.errorCode(), OrphanTree.TWICE);
        load(x, processes(25));
        is(x.errorCode(), OrphanTree.TOO_MANY);
        load(x, "");
        is(x.errorCode(), OrphanTree.NO_ERROR);
    }

    @Says("Returns the offset; -1 if errorCode() is NO_ERROR")
    static void theErrorOffset() {
        OrphanTree x = new OrphanTree();
        is(x.errorOffset(), -1);
        load(x, "x");
        is(x.errorOffset(), 0);
        load(x, "deep 0;");
        is(x.errorOffset(), 5);
        write(x, "deep 3;");
        is(x.errorOffset(), 5);
        is(x.loadTree(), 1);
        is(x.errorOffset(), -1);
    }

    @Says("Error code: the text does not follow the form")
    static void theConstants() {
        is(OrphanTree.NO_ERROR, 0);
        is(OrphanTree.SYNTAX, 1);
        is(OrphanTree.OUT_OF_RANGE, 2);
        is(OrphanTree.TWICE, 3);
        is(OrphanTree.TOO_MANY, 4);
    }
}
