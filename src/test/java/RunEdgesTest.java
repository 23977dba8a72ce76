/** The boundary cases of promises 13 to 16, a test for each sentence that names one. */
public final class RunEdgesTest {
    private static final int MIN = Integer.MIN_VALUE;
    private static final int MAX = Integer.MAX_VALUE;
    /** Puts 2^30 into r9, with r8 as help. */
    private static final String POWER_30 =
        "CONST 9 512; MUL 8 9 9; MUL 9 9 8; CONST 8 8; MUL 9 9 8; ";

    public static void main(String[] args) {
        beginsAtInstruction0();
        allRegisters0();
        allCells0();
        endsAtEnd();
        endsBehindTheLast();
        endsByAJumpBehindTheLast();
        endsByAJumpBeyond();
        jumpToTheLast();
        endsAfter300();
        endsAfter2000();
        beginsWithAnEmptyStack();
        addWraps();
        subWraps();
        mulWraps();
        lessOfEqualAndFar();
        loadMod16();
        storeMod16();
        zeroIfAIs0();
        upperIsTheRightOne();
        upperBecomesTheCell();
        howManyWerePutOut();
        anotherWhich();
        outFrom0();
        outOfNone();
        outOfNoRun();
        atMost40AreKept();
        outOfTheLastRun();
        stepsOfTheLastRun();
        stepsOfNoRun();
        cellsOfTheLastRun();
        cellOfNone();
        cellOfNoRun();
        deepestStack();
        calls512();
        Check.end();
    }

    /** Both runs put out these numbers. */
    private static void duePrinted(String what, StackCoder x, String want) {
        Check.due(what + ": run(0)", Text.printed(x, 0), want);
        Check.due(what + ": run(1)", Text.printed(x, 1), want);
    }

    private static void dueSteps(String what, StackCoder x, int instructions, int operations) {
        x.run(0);
        Check.due(what + ": steps() of run(0)", x.steps(), instructions);
        x.run(1);
        Check.due(what + ": steps() of run(1)", x.steps(), operations);
    }

    /** Terms: "A run begins at instruction 0", each run. */
    private static void beginsAtInstruction0() {
        StackCoder x = Text.coder(3, "CONST 1 5; PRINT 1; CONST 1 6; PRINT 1; END");
        duePrinted("first", x, "2: 5 6");
        duePrinted("second", x, "2: 5 6");
    }

    /** Terms: "all registers and cells 0": registers 0 .. 9, in a second run too. */
    private static void allRegisters0() {
        for (int register = 0; register <= 9; register++) {
            StackCoder x = Text.coder(3, "PRINT " + register + "; CONST " + register
                + " 7; PRINT " + register + "; PRINT " + register);
            duePrinted("first, r" + register, x, "3: 0 7 7");
            duePrinted("second, r" + register, x, "3: 0 7 7");
        }
    }

    /** Terms: "all registers and cells 0": cells 0 .. 15, in a second run too. */
    private static void allCells0() {
        for (int cell = 0; cell <= 15; cell++) {
            StackCoder x = Text.coder(3, "CONST 1 " + cell + "; LOAD 2 1; PRINT 2; CONST 3 7; STORE 1 3");
            duePrinted("first, cell " + cell, x, "1: 0");
            duePrinted("second, cell " + cell, x, "1: 0");
        }
    }

    /** Terms: "it ends at END", be it the first or the last; promise 15 counts it. */
    private static void endsAtEnd() {
        StackCoder first = Text.coder(3, "END; PRINT 1");
        duePrinted("END first", first, "0:");
        dueSteps("END first", first, 1, 1);
        StackCoder middle = Text.coder(3, "PRINT 1; END; PRINT 1");
        duePrinted("END between", middle, "1: 0");
        dueSteps("END between", middle, 2, 3);
        StackCoder last = Text.coder(3, "PRINT 1; END");
        duePrinted("END last", last, "1: 0");
        dueSteps("END last", last, 2, 3);
    }

    /** Terms: "behind the last instruction": of none, of one, of 40. */
    private static void endsBehindTheLast() {
        dueSteps("none", new StackCoder(3), 0, 1);
        dueSteps("one", Text.coder(3, "PRINT 1"), 1, 3);
        dueSteps("40", Text.coder(3, Text.times(40, "PRINT 1")), 40, 81);
    }

    /** Terms: "(also by a jump there": JUMP and ZERO. */
    private static void endsByAJumpBehindTheLast() {
        StackCoder jump = Text.coder(3, "JUMP 2; PRINT 1");
        duePrinted("JUMP there", jump, "0:");
        dueSteps("JUMP there", jump, 1, 2);
        StackCoder zero = Text.coder(3, "ZERO 1 2; PRINT 1");
        duePrinted("ZERO there", zero, "0:");
        dueSteps("ZERO there", zero, 1, 3);
    }

    /** Terms: "or beyond)": JUMP and ZERO; what is added later makes it an instruction. */
    private static void endsByAJumpBeyond() {
        StackCoder jump = Text.coder(3, "JUMP 3; PRINT 1");
        duePrinted("JUMP beyond", jump, "0:");
        dueSteps("JUMP beyond", jump, 1, 2);
        Text.add(jump, "PRINT 1; PRINT 1");
        duePrinted("JUMP, no longer beyond", jump, "1: 0");
        StackCoder zero = Text.coder(3, "ZERO 1 39; PRINT 1");
        duePrinted("ZERO beyond", zero, "0:");
        dueSteps("ZERO beyond", zero, 1, 3);
        dueSteps("JUMP 39, alone", Text.coder(3, "JUMP 39"), 1, 2);
        StackCoder cut = Text.coder(3, "JUMP 2; PRINT 1; PRINT 2");
        cut.cut(2);
        duePrinted("beyond by cut", cut, "0:");
    }

    /** Terms: "on to instruction a, a number 0 .. 39": of 40 the last is not beyond. */
    private static void jumpToTheLast() {
        StackCoder jump = Text.coder(3, "JUMP 39; " + Text.times(39, "PRINT 1"));
        duePrinted("JUMP 39", jump, "1: 0");
        dueSteps("JUMP 39", jump, 2, 4);
        StackCoder zero = Text.coder(3, "ZERO 1 39; " + Text.times(39, "PRINT 1"));
        duePrinted("ZERO 39", zero, "1: 0");
    }

    /** Instructions 0 .. 4 do 2 + 3 * rounds - 1 instructions and 3 + 7 * rounds operations. */
    private static String rounds(int count) {
        return "CONST 1 1; CONST 0 " + count + "; SUB 0 0 1; ZERO 0 5; JUMP 2; ";
    }

    /** Terms: "or after 300 instructions": the 300th is done, the 301st is not. */
    private static void endsAfter300() {
        StackCoder at299 = Text.coder(3, rounds(99) + "PRINT 1");
        Check.due("PRINT is number 299: run(0)", at299.run(0), 1);
        Check.due("PRINT is number 299: steps()", at299.steps(), 299);
        StackCoder at300 = Text.coder(3, rounds(99) + "PRINT 1; PRINT 1");
        Check.due("PRINT is number 300: run(0)", at300.run(0), 2);
        Check.due("PRINT is number 300: steps()", at300.steps(), 300);
        StackCoder at301 = Text.coder(3, rounds(99) + "PRINT 1; PRINT 1; PRINT 1");
        Check.due("PRINT is number 301: run(0)", at301.run(0), 2);
        Check.due("PRINT is number 301: steps()", at301.steps(), 300);
        StackCoder end = Text.coder(3, rounds(99) + "PRINT 1; END");
        Check.due("END is number 300: run(0)", end.run(0), 1);
        Check.due("END is number 300: steps()", end.steps(), 300);
        StackCoder store = Text.coder(3, rounds(99) + "PRINT 1; STORE 1 1; STORE 0 1");
        store.run(0);
        Check.due("STORE is number 300: cell(1)", store.cell(1), 1);
        Check.due("STORE is number 301: cell(0)", store.cell(0), 0);
        StackCoder ever = Text.coder(3, "JUMP 0");
        Check.due("for ever: run(0)", ever.run(0), 0);
        Check.due("for ever: steps()", ever.steps(), 300);
    }

    /** Terms: "ends at END or after 2000 operations": the 2000th is done, the 2001st is not. */
    private static void endsAfter2000() {
        StackCoder end1999 = Text.coder(3, rounds(285) + "END");
        end1999.run(1);
        Check.due("END is number 1999: steps()", end1999.steps(), 1999);
        StackCoder end2000 = Text.coder(3, rounds(285) + "JUMP 6; END");
        end2000.run(1);
        Check.due("END is number 2000: steps()", end2000.steps(), 2000);
        StackCoder print2000 = Text.coder(3, rounds(285) + "PRINT 1; PRINT 1");
        Check.due("PRINT is number 2000: run(1)", print2000.run(1), 1);
        Check.due("PRINT is number 2000: steps()", print2000.steps(), 2000);
        StackCoder print2001 = Text.coder(3, rounds(285) + "JUMP 6; PRINT 1");
        Check.due("PRINT is number 2001: run(1)", print2001.run(1), 0);
        Check.due("PRINT is number 2001: steps()", print2001.steps(), 2000);
        StackCoder ever = Text.coder(3, "JUMP 0");
        Check.due("for ever: run(1)", ever.run(1), 0);
        Check.due("for ever: steps()", ever.steps(), 2000);
    }

    /** Terms: "or after 2000 operations": what was left on the stack then hinders no later run. */
    private static void beginsWithAnEmptyStack() {
        StackCoder x = Text.coder(8, "PRINT 1; PRINT 1; ADD 2 3 4; ADD 5 6 7; ADD 8 2 5; PRINT 8; JUMP 2");
        for (int k = 0; k < 10; k++) {
            Check.due("ended between ADD and ADD: run(1)", x.run(1), 2 + 221);
            Check.due("ended between ADD and ADD: steps()", x.steps(), 2000);
        }
        x.cut(0);
        addDeepCode(x);
        Check.due("deep code behind it", Text.printed(x, 1), "1: 112");
    }

    /** Terms: "ADD [...] (all wrap)". */
    private static void addWraps() {
        duePrinted("2^30 + 2^30", Text.coder(3, POWER_30 + "ADD 1 9 9; PRINT 1"), "1: " + MIN);
        duePrinted("MIN + MIN", Text.coder(3, POWER_30 + "ADD 1 9 9; ADD 1 1 1; PRINT 1"), "1: 0");
        duePrinted("MIN + -1",
            Text.coder(3, POWER_30 + "ADD 1 9 9; CONST 2 -1; ADD 1 1 2; PRINT 1"), "1: " + MAX);
    }

    /** Terms: "SUB [...] (all wrap)". */
    private static void subWraps() {
        duePrinted("MIN - 1",
            Text.coder(3, POWER_30 + "ADD 1 9 9; CONST 2 1; SUB 1 1 2; PRINT 1"), "1: " + MAX);
        duePrinted("0 - MIN", Text.coder(3, POWER_30 + "ADD 1 9 9; SUB 1 0 1; PRINT 1"), "1: " + MIN);
    }

    /** Terms: "MUL [...] (all wrap)". */
    private static void mulWraps() {
        duePrinted("2^30 * 2^30", Text.coder(3, POWER_30 + "MUL 1 9 9; PRINT 1"), "1: 0");
        duePrinted("MIN * -1",
            Text.coder(3, POWER_30 + "ADD 1 9 9; CONST 2 -1; MUL 1 1 2; PRINT 1"), "1: " + MIN);
        duePrinted("(2^30 + 1) * (2^30 + 1)",
            Text.coder(3, POWER_30 + "CONST 2 1; ADD 1 9 2; MUL 1 1 1; PRINT 1"), "1: " + (MIN + 1));
    }

    /** Terms: "5 LESS: d becomes 1 if a is less than b, else 0": equal, next, farthest. */
    private static void lessOfEqualAndFar() {
        duePrinted("0, 0", Text.coder(3, "LESS 1 2 3; PRINT 1"), "1: 0");
        duePrinted("a register and itself", Text.coder(3, "LESS 1 2 2; PRINT 1"), "1: 0");
        duePrinted("-1, 0", Text.coder(3, "CONST 2 -1; LESS 1 2 3; PRINT 1"), "1: 1");
        duePrinted("0, -1", Text.coder(3, "CONST 3 -1; LESS 1 2 3; PRINT 1"), "1: 0");
        String far = POWER_30 + "ADD 2 9 9; CONST 4 1; SUB 3 2 4; ";
        duePrinted("MIN, MAX", Text.coder(3, far + "LESS 1 2 3; PRINT 1"), "1: 1");
        duePrinted("MAX, MIN", Text.coder(3, far + "LESS 1 3 2; PRINT 1"), "1: 0");
    }

    /** Code that puts this number into r1, with r2, r8 and r9 as help. */
    private static String number(int n) {
        if (n == MIN) {
            return POWER_30 + "ADD 1 9 9; ";
        }
        if (n == MAX) {
            return POWER_30 + "ADD 1 9 9; CONST 2 1; SUB 1 1 2; ";
        }
        return "CONST 1 " + n + "; ";
    }

    private static final int[] ADDRESSES = {0, 1, 15, 16, 17, 31, 32, -1, -15, -16, -17, -32, MIN, MAX};
    private static final int[] THEIR_CELLS = {0, 1, 15, 0, 1, 15, 0, 15, 1, 0, 15, 0, 0, 15};

    /** Terms: "6 LOAD: d becomes the cell a mod 16 (0 .. 15 also for less than 0". */
    private static void loadMod16() {
        for (int k = 0; k < ADDRESSES.length; k++) {
            String store = "CONST 3 " + THEIR_CELLS[k] + "; CONST 4 7; STORE 3 4; ";
            duePrinted("LOAD of " + ADDRESSES[k],
                Text.coder(3, store + number(ADDRESSES[k]) + "LOAD 5 1; PRINT 5"), "1: 7");
        }
    }

    /** Terms: "7 STORE: the cell a mod 16 becomes b", also for less than 0. */
    private static void storeMod16() {
        for (int k = 0; k < ADDRESSES.length; k++) {
            StackCoder x = Text.coder(3, number(ADDRESSES[k]) + "CONST 4 7; STORE 1 4");
            for (int which = 0; which <= 1; which++) {
                x.run(which);
                for (int i = 0; i < 16; i++) {
                    Check.due("STORE at " + ADDRESSES[k] + ", run " + which + ": cell(" + i + ")",
                        x.cell(i), i == THEIR_CELLS[k] ? 7 : 0);
                }
            }
        }
    }

    /** Terms: "10 ZERO: on to instruction b [...] if a is 0": not for any other number. */
    private static void zeroIfAIs0() {
        int[] others = {1, -1, 16, 256, -999, 999, MIN, MAX};
        for (int n : others) {
            StackCoder x = Text.coder(3, number(n) + "ZERO 1 39; PRINT 7");
            duePrinted("ZERO of " + n, x, "1: 0");
        }
        duePrinted("ZERO of 0", Text.coder(3, "CONST 1 0; ZERO 1 39; PRINT 7"), "0:");
        duePrinted("ZERO of a 0 by wrap-around",
            Text.coder(3, POWER_30 + "MUL 1 9 9; ZERO 1 39; PRINT 7"), "0:");
    }

    /** Terms: "(of the two on top, the upper one is the right one)", behind SWAP too. */
    private static void upperIsTheRightOne() {
        String two = "CONST 1 7; CONST 2 3; ";
        duePrinted("7 - 3", Text.coder(3, two + "SUB 3 1 2; PRINT 3"), "1: 4");
        duePrinted("3 - 7", Text.coder(3, two + "SUB 3 2 1; PRINT 3"), "1: -4");
        duePrinted("7 < 3", Text.coder(3, two + "LESS 3 1 2; PRINT 3"), "1: 0");
        duePrinted("3 < 7", Text.coder(3, two + "LESS 3 2 1; PRINT 3"), "1: 1");
        duePrinted("0 - (7 + 3)", Text.coder(3, two + "ADD 3 1 2; SUB 3 4 3; PRINT 3"), "1: -10");
        duePrinted("0 < 7 + 3", Text.coder(3, two + "ADD 3 1 2; LESS 3 4 3; PRINT 3"), "1: 1");
    }

    /** Terms: "10 STORE (the upper one becomes the cell of the lower one)", behind SWAP too. */
    private static void upperBecomesTheCell() {
        StackCoder plain = Text.coder(3, "CONST 1 7; CONST 2 3; STORE 1 2");
        StackCoder swapped = Text.coder(3, "CONST 1 1; CONST 2 2; ADD 1 1 2; CONST 4 7; STORE 4 1");
        for (int which = 0; which <= 1; which++) {
            plain.run(which);
            Check.due("STORE, run " + which, Text.cells(plain), "0 0 0 0 0 0 0 3 0 0 0 0 0 0 0 0");
            swapped.run(which);
            Check.due("STORE, SWAP, run " + which, Text.cells(swapped), "0 0 0 0 0 0 0 3 0 0 0 0 0 0 0 0");
        }
    }

    /** Promise 13: "how many numbers were put out": none, 40, and more than are kept. */
    private static void howManyWerePutOut() {
        for (int which = 0; which <= 1; which++) {
            Check.due("none: run", new StackCoder(3).run(which), 0);
            Check.due("40: run", Text.coder(3, Text.times(40, "PRINT 1")).run(which), 40);
            StackCoder ever = Text.coder(3, Text.times(39, "PRINT 1") + "; JUMP 0");
            int most = which == 0 ? 7 * 39 + 20 : 25 * 39 + 12;
            Check.due("more than are kept: run", ever.run(which), most);
        }
    }

    /** Promise 13: "-1 for another which." */
    private static void anotherWhich() {
        int[] others = {-1, 2, 3, 256, MIN, MAX};
        for (int which : others) {
            Check.due("none: run(" + which + ")", new StackCoder(3).run(which), -1);
            Check.due("run(" + which + ")", Text.coder(3, "PRINT 1").run(which), -1);
        }
    }

    /** Promise 14: "Number i (from 0) of what was put out by the last run". */
    private static void outFrom0() {
        StackCoder x = Text.coder(3, "CONST 1 5; PRINT 1; CONST 1 6; PRINT 1");
        for (int which = 0; which <= 1; which++) {
            Check.due("run", x.run(which), 2);
            Check.due("out(0)", x.out(0), 5);
            Check.due("out(1)", x.out(1), 6);
        }
    }

    /** Promise 14: "0 if there is none.", of numbers that a run put out. */
    private static void outOfNone() {
        StackCoder x = Text.coder(3, "CONST 1 5; PRINT 1; CONST 1 6; PRINT 1");
        int[] others = {-1, 2, 3, 39, 40, 41, MIN, MAX};
        for (int which = 0; which <= 1; which++) {
            x.run(which);
            for (int i : others) {
                Check.due("out(" + i + ")", x.out(i), 0);
            }
        }
    }

    /** Promise 14: "0 if there is none.", before any run, and behind a refused one. */
    private static void outOfNoRun() {
        StackCoder x = Text.coder(3, "CONST 1 5; PRINT 1");
        Check.due("no run: out(0)", x.out(0), 0);
        x.run(2);
        Check.due("refused run: out(0)", x.out(0), 0);
        Check.due("refused run: out(-1)", x.out(-1), 0);
    }

    /** Promise 14: "(of at most 40 that are kept)": the first 40, of 39, 40, 41 and many. */
    private static void atMost40AreKept() {
        for (int count = 38; count <= 42; count++) {
            StackCoder x = Text.coder(3, "CONST 1 1; CONST 2 " + count + "; ADD 3 3 1; PRINT 3; "
                + "LESS 4 3 2; ZERO 4 7; JUMP 2; END");
            for (int which = 0; which <= 1; which++) {
                Check.due(count + " numbers, run " + which, x.run(which), count);
                Check.due(count + " numbers: out(0)", x.out(0), 1);
                Check.due(count + " numbers: out(37)", x.out(37), 38);
                Check.due(count + " numbers: out(38)", x.out(38), count > 38 ? 39 : 0);
                Check.due(count + " numbers: out(39)", x.out(39), count > 39 ? 40 : 0);
                Check.due(count + " numbers: out(40)", x.out(40), 0);
                Check.due(count + " numbers: out(41)", x.out(41), 0);
            }
        }
        StackCoder ever = Text.coder(3, "CONST 1 1; ADD 3 3 1; PRINT 3; JUMP 1");
        Check.due("many: run(0)", ever.run(0), 100);
        Check.due("many: out(39)", ever.out(39), 40);
        Check.due("many: out(40)", ever.out(40), 0);
        Check.due("many: out(99)", ever.out(99), 0);
    }

    /** Promise 14: "put out by the last run": of a longer run before it nothing is left. */
    private static void outOfTheLastRun() {
        StackCoder x = Text.coder(3, "CONST 1 5; PRINT 1; CONST 1 6; PRINT 1");
        x.run(0);
        x.cut(2);
        Check.due("the code is cut: out(1)", x.out(1), 6);
        Check.due("run(1)", x.run(1), 1);
        Check.due("out(0)", x.out(0), 5);
        Check.due("out(1)", x.out(1), 0);
        x.cut(0);
        Check.due("none: run(0)", x.run(0), 0);
        Check.due("none: out(0)", x.out(0), 0);
    }

    /** Promise 15: "How many instructions or operations the last run did." */
    private static void stepsOfTheLastRun() {
        StackCoder x = Text.coder(3, "CONST 1 5; PRINT 1; END; PRINT 2");
        x.run(0);
        Check.due("steps() of run(0)", x.steps(), 3);
        x.run(1);
        Check.due("steps() of run(1)", x.steps(), 3);
        x.cut(2);
        Check.due("the code is cut: steps()", x.steps(), 3);
        x.run(0);
        Check.due("steps() of two", x.steps(), 2);
        x.cut(0);
        x.run(0);
        Check.due("steps() of none", x.steps(), 0);
        x.run(1);
        Check.due("steps() of none, stack code", x.steps(), 1);
    }

    /** Promise 15: "the last run": before any, none was done. */
    private static void stepsOfNoRun() {
        StackCoder x = Text.coder(3, "PRINT 1");
        Check.due("no run: steps()", x.steps(), 0);
        x.run(-1);
        Check.due("refused run: steps()", x.steps(), 0);
    }

    /** Promise 16: "Cell i of memory after the last run": the first, the last, and no older. */
    private static void cellsOfTheLastRun() {
        StackCoder x = Text.coder(3, "CONST 1 5; STORE 0 1; CONST 2 15; CONST 3 6; STORE 2 3");
        for (int which = 0; which <= 1; which++) {
            x.run(which);
            Check.due("run " + which, Text.cells(x), "5 0 0 0 0 0 0 0 0 0 0 0 0 0 0 6");
        }
        x.cut(2);
        Check.due("the code is cut", Text.cells(x), "5 0 0 0 0 0 0 0 0 0 0 0 0 0 0 6");
        x.run(1);
        Check.due("two", Text.cells(x), "5 0 0 0 0 0 0 0 0 0 0 0 0 0 0 0");
        x.cut(0);
        x.run(0);
        Check.due("none", Text.cells(x), "0 0 0 0 0 0 0 0 0 0 0 0 0 0 0 0");
    }

    /** Promise 16: "0 if there is none": there are 16. */
    private static void cellOfNone() {
        StackCoder x = Text.coder(3, "CONST 1 5; STORE 0 1; CONST 2 15; STORE 2 1");
        x.run(1);
        int[] others = {-1, 16, 17, 31, -16, 256, MIN, MAX};
        for (int i : others) {
            Check.due("cell(" + i + ")", x.cell(i), 0);
        }
    }

    /** Promise 16: "or no run." */
    private static void cellOfNoRun() {
        StackCoder x = Text.coder(3, "CONST 1 5; STORE 0 1");
        Check.due("no run", Text.cells(x), "0 0 0 0 0 0 0 0 0 0 0 0 0 0 0 0");
        Check.due("no run: cell(16)", x.cell(16), 0);
        x.run(2);
        Check.due("refused run: cell(0)", x.cell(0), 0);
    }

    /** What it is: "how deep that may go": 6 is the most that 40 instructions can need. */
    private static void deepestStack() {
        StackCoder x = new StackCoder(8);
        addDeepCode(x);
        Check.due("deep: need of the last", x.need(x.size() - 1), 6);
        Check.due("deep: stores()", x.stores(), 2);
        duePrinted("deep", x, "1: 112");
    }

    /** Puts out 16 * 7. */
    private static void addDeepCode(StackCoder x) {
        Text.add(x, "CONST 8 5; CONST 9 2");
        addSums(x, 4, 0);
        Text.add(x, "PRINT 0");
    }

    /** 2^height sums of r8 and r9, joined by sums. */
    private static void addSums(StackCoder x, int height, int register) {
        if (height == 0) {
            Text.add(x, "ADD " + register + " 8 9");
            return;
        }
        addSums(x, height - 1, register);
        addSums(x, height - 1, register + 1);
        Text.add(x, "ADD " + register + " " + register + " " + (register + 1));
    }

    /** What it is: "An object is used for at most 512 calls": the 512th answers as the first. */
    private static void calls512() {
        StackCoder x = new StackCoder(3);
        Check.due("call 1", x.add(0, 1, 0, 0), 0);
        Check.due("call 2", x.add(8, 0, 1, 0), 1);
        for (int k = 0; k < 85; k++) {
            Check.due("set", x.set(0, 0, 1, k, 0), true);
            Check.due("length", x.length(), 3);
            Check.due("run(0)", x.run(0), 1);
            Check.due("out of run(0)", x.out(0), k);
            Check.due("run(1)", x.run(1), 1);
            Check.due("call " + (k * 6 + 8), x.out(0), k);
        }
        StackCoder full = new StackCoder(8);
        for (int i = 0; i < 40; i++) {
            full.add(4, i % 10, (i + 1) % 10, (i + 2) % 10);
        }
        for (int k = 40; k < 511; k++) {
            Check.due("set", full.set(k % 40, 4, k % 10, (k + 1) % 10, (k + 2) % 10), true);
        }
        Check.due("call 512", full.size(), 40);
    }
}
