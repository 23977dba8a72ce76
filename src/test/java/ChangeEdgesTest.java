/** The boundary cases of promises 1 to 5, a test for each sentence that names one. */
public final class ChangeEdgesTest {
    private static final int D = 1;
    private static final int A = 2;
    private static final int B = 3;
    private static final int[] FAR = {Integer.MIN_VALUE, Integer.MAX_VALUE};

    public static void main(String[] args) {
        depthFrom1To8();
        depthElse3();
        noCode();
        atMost40();
        numbersFrom0();
        refusedIfThereAre40();
        operationNotAsTold();
        registersFrom0To9();
        numbersOfConst();
        numbersOfCopy();
        numbersOfLoad();
        numbersOfStore();
        numbersOfPrint();
        numbersOfJump();
        numbersOfZero();
        numbersOfEnd();
        setOfOne();
        setOfNoSuchInstruction();
        setNotAsTold();
        cutToTheFirst();
        cutToMoreThanThereAre();
        cutToLessThanNothing();
        sizes();
        refusedAddChangesNothing();
        refusedSetChangesNothing();
        refusedCutChangesNothing();
        refusedRunChangesNothing();
        Check.end();
    }

    /** 31 sums of sums of r8 and r9, and PRINT: D being great enough, they need 6. */
    private static StackCoder sums(int depth) {
        StackCoder x = new StackCoder(depth);
        addSums(x, 4, 0);
        Text.add(x, "PRINT 0");
        return x;
    }

    private static void addSums(StackCoder x, int height, int register) {
        if (height == 0) {
            Text.add(x, "ADD " + register + " 8 9");
            return;
        }
        addSums(x, height - 1, register);
        addSums(x, height - 1, register + 1);
        Text.add(x, "ADD " + register + " " + register + " " + (register + 1));
    }

    /** Promise 1: "D is depth if that is 1 .. 8". No 40 instructions need more than 6. */
    private static void depthFrom1To8() {
        int[] greatest = {2, 2, 3, 4, 5, 6, 6, 6};
        int[] firstGoal = {-1, 2, 2, 2, 2, 2, 2, 2};
        for (int depth = 1; depth <= 8; depth++) {
            StackCoder x = sums(depth);
            Check.due("D " + depth + ": depth()", x.depth(), greatest[depth - 1]);
            Check.due("D " + depth + ": carried(0)", x.carried(0), firstGoal[depth - 1]);
        }
    }

    /** Promise 1: "else 3". */
    private static void depthElse3() {
        String three = Text.stackCode(sums(3));
        int[] others = {0, -1, -3, 9, 10, 259, Integer.MIN_VALUE, Integer.MAX_VALUE};
        for (int depth : others) {
            StackCoder x = sums(depth);
            Check.due("depth " + depth + ": depth()", x.depth(), 3);
            Check.due("depth " + depth, Text.stackCode(x), three);
        }
    }

    /** Promise 1: "No code." */
    private static void noCode() {
        for (int depth = 0; depth <= 9; depth++) {
            StackCoder x = new StackCoder(depth);
            Check.due("new: size()", x.size(), 0);
            Check.due("new", Text.stackCode(x), "END");
            Check.due("new: run(0)", Text.printed(x, 0), "0:");
            Check.due("new: run(1)", Text.printed(x, 1), "0:");
        }
    }

    /** Terms: "REGISTER CODE is a row of at most 40 INSTRUCTIONS": all 40 are run and coded. */
    private static void atMost40() {
        StackCoder x = Text.coder(3, Text.times(38, "PRINT 1") + "; CONST 2 7; PRINT 2");
        Check.due("40: length()", x.length(), 38 * 2 + 2 + 1);
        Check.due("40: run(0)", x.run(0), 39);
        Check.due("40: out(38)", x.out(38), 7);
        Check.due("40: run(1)", x.run(1), 39);
        Check.due("40: out(38) of the stack code", x.out(38), 7);
        Check.due("40: carried(38)", x.carried(38), 39);
    }

    /** Promise 2: "One more instruction: its number", Terms: "numbered from 0". */
    private static void numbersFrom0() {
        StackCoder x = new StackCoder(3);
        for (int i = 0; i < 40; i++) {
            Check.due("add: its number", x.add(i % 2 == 0 ? 0 : 8, 0, 0, 0), i);
        }
    }

    /** Promise 2: "-1, refused, if there are 40". */
    private static void refusedIfThereAre40() {
        StackCoder x = Text.coder(3, Text.times(39, "PRINT 1"));
        Check.due("add to 39", x.add(11, 0, 0, 0), 39);
        Check.due("add to 40", x.add(11, 0, 0, 0), -1);
        Check.due("add to 40, not as told", x.add(12, 0, 0, 0), -1);
        Check.due("add to 40, again", x.add(0, 1, 5, 0), -1);
        Check.due("size of 40", x.size(), 40);
        Check.due("cut to 39", x.cut(39), true);
        Check.due("add to 39 again", x.add(0, 1, 5, 0), 39);
        Check.due("add to 40 once more", x.add(0, 1, 5, 0), -1);
    }

    /** Promise 2: "or the operation [...] is not as told": they are 0 .. 11. */
    private static void operationNotAsTold() {
        int[] others = {-1, 12, 13, 255, 256, Integer.MIN_VALUE, Integer.MAX_VALUE};
        StackCoder x = new StackCoder(3);
        for (int operation : others) {
            Check.due("add of operation " + operation, x.add(operation, 0, 0, 0), -1);
        }
        for (int operation = 0; operation <= 11; operation++) {
            Check.due("add of operation " + operation, x.add(operation, 0, 0, 0), operation);
        }
    }

    /** One of d, a, b of this operation may be least .. most, and nothing else. */
    private static void dueRange(int operation, int which, int least, int most) {
        dueTaken(operation, which, least, true);
        dueTaken(operation, which, most, true);
        dueTaken(operation, which, least - 1, false);
        dueTaken(operation, which, most + 1, false);
        for (int far : FAR) {
            dueTaken(operation, which, far, false);
        }
    }

    private static void dueTaken(int operation, int which, int number, boolean taken) {
        int[] n = {operation, 0, 0, 0};
        n[which] = number;
        String call = "(" + n[0] + ", " + n[1] + ", " + n[2] + ", " + n[3] + ")";
        StackCoder x = Text.coder(3, "PRINT 1");
        Check.due("add" + call, x.add(n[0], n[1], n[2], n[3]), taken ? 1 : -1);
        Check.due("size behind add" + call, x.size(), taken ? 2 : 1);
        StackCoder y = Text.coder(3, "PRINT 1; PRINT 2");
        Check.due("set" + call, y.set(1, n[0], n[1], n[2], n[3]), taken);
        if (!taken) {
            Check.due("behind set" + call, Text.stackCode(y), "GET 1; PRINT; GET 2; PRINT; END");
        }
    }

    /** Terms: "for REGISTERS 0 .. 9", "d, a, b are registers unless told"; ADD, SUB, MUL, LESS. */
    private static void registersFrom0To9() {
        for (int operation = 2; operation <= 5; operation++) {
            dueRange(operation, D, 0, 9);
            dueRange(operation, A, 0, 9);
            dueRange(operation, B, 0, 9);
        }
    }

    /** Terms: "0 CONST: d becomes a (-999 .. 999; b is 0)". */
    private static void numbersOfConst() {
        dueRange(0, D, 0, 9);
        dueRange(0, A, -999, 999);
        dueRange(0, B, 0, 0);
        StackCoder x = Text.coder(3, "CONST 9 -999; PRINT 9; CONST 9 999; PRINT 9");
        Check.due("the least and the greatest", Text.printed(x, 0), "2: -999 999");
        Check.due("the least and the greatest", Text.printed(x, 1), "2: -999 999");
    }

    /** Terms: "1 COPY: d becomes a (b is 0)". */
    private static void numbersOfCopy() {
        dueRange(1, D, 0, 9);
        dueRange(1, A, 0, 9);
        dueRange(1, B, 0, 0);
        StackCoder x = Text.coder(3, "CONST 0 5; COPY 9 0; STORE 9 9; COPY 1 9; PRINT 1");
        Check.due("from the first to the last and back", Text.printed(x, 0), "1: 5");
        Check.due("from the first to the last and back", Text.printed(x, 1), "1: 5");
    }

    /** Terms: "6 LOAD: d becomes the cell a mod 16 ([...] b is 0)". */
    private static void numbersOfLoad() {
        dueRange(6, D, 0, 9);
        dueRange(6, A, 0, 9);
        dueRange(6, B, 0, 0);
    }

    /** Terms: "7 STORE: the cell a mod 16 becomes b (d is 0)". */
    private static void numbersOfStore() {
        dueRange(7, D, 0, 0);
        dueRange(7, A, 0, 9);
        dueRange(7, B, 0, 9);
    }

    /** Terms: "8 PRINT: a is put out (d, b are 0)". */
    private static void numbersOfPrint() {
        dueRange(8, D, 0, 0);
        dueRange(8, A, 0, 9);
        dueRange(8, B, 0, 0);
    }

    /** Terms: "9 JUMP: on to instruction a, a number 0 .. 39 (d, b are 0)". */
    private static void numbersOfJump() {
        dueRange(9, D, 0, 0);
        dueRange(9, A, 0, 39);
        dueRange(9, B, 0, 0);
    }

    /** Terms: "10 ZERO: on to instruction b, a number 0 .. 39, if a is 0 (d is 0)". */
    private static void numbersOfZero() {
        dueRange(10, D, 0, 0);
        dueRange(10, A, 0, 9);
        dueRange(10, B, 0, 39);
    }

    /** Terms: "11 END (d, a, b are 0)". */
    private static void numbersOfEnd() {
        dueRange(11, D, 0, 0);
        dueRange(11, A, 0, 0);
        dueRange(11, B, 0, 0);
    }

    /** Promise 3: "Instruction i becomes another one": the first, the last, no other. */
    private static void setOfOne() {
        StackCoder x = Text.coder(3, "PRINT 1; PRINT 2; PRINT 3");
        Check.due("set of the first", Text.set(x, 0, "PRINT 4"), true);
        Check.due("the first", Text.stackCode(x), "GET 4; PRINT; GET 2; PRINT; GET 3; PRINT; END");
        Check.due("set of the last", Text.set(x, 2, "PRINT 5"), true);
        Check.due("the last", Text.stackCode(x), "GET 4; PRINT; GET 2; PRINT; GET 5; PRINT; END");
        Check.due("size behind set", x.size(), 3);
        StackCoder full = Text.coder(3, Text.times(40, "PRINT 1"));
        Check.due("set in full code", Text.set(full, 39, "END"), true);
        Check.due("length of full code", full.length(), 39 * 2 + 2);
    }

    /** Promise 3: "false, refused, if there is no such instruction". */
    private static void setOfNoSuchInstruction() {
        Check.due("set(0) of no code", Text.set(new StackCoder(3), 0, "END"), false);
        StackCoder x = Text.coder(3, "PRINT 1; PRINT 2");
        int[] others = {-1, 2, 39, 40, Integer.MIN_VALUE, Integer.MAX_VALUE};
        for (int i : others) {
            Check.due("set(" + i + ")", Text.set(x, i, "END"), false);
        }
        Check.due("behind them", Text.stackCode(x), "GET 1; PRINT; GET 2; PRINT; END");
        StackCoder full = Text.coder(3, Text.times(40, "PRINT 1"));
        Check.due("set(40) of 40", Text.set(full, 40, "END"), false);
        full.cut(39);
        Check.due("set of what was cut off", Text.set(full, 39, "END"), false);
    }

    /** Promise 3: "or it is not as told": the numbers are tried above; here the operations. */
    private static void setNotAsTold() {
        StackCoder x = Text.coder(3, "PRINT 1");
        int[] others = {-1, 12, 256, Integer.MIN_VALUE, Integer.MAX_VALUE};
        for (int operation : others) {
            Check.due("set to operation " + operation, x.set(0, operation, 0, 0, 0), false);
            Check.due("both are wrong", x.set(1, operation, 0, 0, 0), false);
        }
        Check.due("behind them", Text.stackCode(x), "GET 1; PRINT; END");
    }

    /** Promise 4: "Only the first n instructions are left": all of them, one less, none. */
    private static void cutToTheFirst() {
        StackCoder x = Text.coder(3, "PRINT 1; PRINT 2; PRINT 3");
        Check.due("cut to all", x.cut(3), true);
        Check.due("all", Text.stackCode(x), "GET 1; PRINT; GET 2; PRINT; GET 3; PRINT; END");
        Check.due("cut to one less", x.cut(2), true);
        Check.due("one less", Text.stackCode(x), "GET 1; PRINT; GET 2; PRINT; END");
        Check.due("cut to none", x.cut(0), true);
        Check.due("none", Text.stackCode(x), "END");
        Check.due("none: size()", x.size(), 0);
        Check.due("cut of none to none", x.cut(0), true);
        Text.add(x, "PRINT 7");
        Check.due("what was cut off stays off", Text.stackCode(x), "GET 7; PRINT; END");
        StackCoder full = Text.coder(3, Text.times(40, "PRINT 1"));
        Check.due("cut of 40 to 40", full.cut(40), true);
        Check.due("40: size()", full.size(), 40);
    }

    /** Promise 4: "false if there are not so many." */
    private static void cutToMoreThanThereAre() {
        Check.due("cut(1) of none", new StackCoder(3).cut(1), false);
        StackCoder x = Text.coder(3, "PRINT 1; PRINT 2; PRINT 3");
        Check.due("cut to one more", x.cut(4), false);
        Check.due("cut to 40", x.cut(40), false);
        Check.due("cut to the most", x.cut(Integer.MAX_VALUE), false);
        Check.due("size behind them", x.size(), 3);
        x.cut(2);
        Check.due("cut back to what was cut off", x.cut(3), false);
        Check.due("size behind it", x.size(), 2);
        Check.due("cut of 40 to 41", Text.coder(3, Text.times(40, "PRINT 1")).cut(41), false);
    }

    /** Promise 4: "false if there are not so many": there are never -1. */
    private static void cutToLessThanNothing() {
        Check.due("cut(-1) of none", new StackCoder(3).cut(-1), false);
        StackCoder x = Text.coder(3, "PRINT 1; PRINT 2");
        Check.due("cut(-1)", x.cut(-1), false);
        Check.due("cut to the least", x.cut(Integer.MIN_VALUE), false);
        Check.due("size behind them", x.size(), 2);
    }

    /** Promise 5: "How many instructions there are.": none, 40, and behind each change. */
    private static void sizes() {
        StackCoder x = new StackCoder(3);
        Check.due("none: size()", x.size(), 0);
        for (int i = 0; i < 40; i++) {
            x.add(8, 0, 1, 0);
            Check.due("size behind add", x.size(), i + 1);
        }
        x.add(8, 0, 1, 0);
        Check.due("size behind refused add", x.size(), 40);
        x.set(39, 11, 0, 0, 0);
        Check.due("size behind set", x.size(), 40);
        x.cut(1);
        Check.due("size behind cut", x.size(), 1);
        x.cut(2);
        Check.due("size behind refused cut", x.size(), 1);
    }

    /** Code that was run: what it is and what the run left can be told. */
    private static StackCoder wellRun() {
        StackCoder x = Text.coder(2, "CONST 1 5; ADD 2 1 3; STORE 2 2; PRINT 2; ZERO 3 6; JUMP 0; END");
        x.run(1);
        return x;
    }

    private static void dueUnchanged(String call, StackCoder x) {
        Check.due("behind refused " + call, Text.all(x), Text.all(wellRun()));
    }

    /** Terms: "A call that is refused changes nothing.", of promise 2, add. */
    private static void refusedAddChangesNothing() {
        int[][] wrong = {{-1, 0, 0, 0}, {12, 0, 0, 0}, {0, 10, 0, 0}, {0, 0, 1000, 0}, {8, 0, 0, 1}};
        for (int[] n : wrong) {
            StackCoder x = wellRun();
            Check.due("refused add", x.add(n[0], n[1], n[2], n[3]), -1);
            dueUnchanged("add", x);
        }
        String forty = Text.times(39, "JUMP 1") + "; END";
        StackCoder full = Text.coder(3, forty);
        full.add(8, 0, 1, 0);
        Check.due("add to 40", Text.all(full), Text.all(Text.coder(3, forty)));
    }

    /** Terms: "A call that is refused changes nothing.", of promise 3, set. */
    private static void refusedSetChangesNothing() {
        int[][] wrong = {{-1, 11, 0, 0, 0}, {7, 11, 0, 0, 0}, {0, 12, 0, 0, 0}, {0, 0, 1, 1000, 0},
            {0, 0, 10, 5, 0}, {0, 0, 1, 5, 1}};
        for (int[] n : wrong) {
            StackCoder x = wellRun();
            Check.due("refused set", x.set(n[0], n[1], n[2], n[3], n[4]), false);
            dueUnchanged("set", x);
        }
    }

    /** Terms: "A call that is refused changes nothing.", of promise 4, cut. */
    private static void refusedCutChangesNothing() {
        int[] wrong = {-1, 8, 40, Integer.MIN_VALUE, Integer.MAX_VALUE};
        for (int n : wrong) {
            StackCoder x = wellRun();
            Check.due("refused cut", x.cut(n), false);
            dueUnchanged("cut", x);
        }
    }

    /** Terms: "A call that is refused changes nothing.", of promise 13, run. */
    private static void refusedRunChangesNothing() {
        int[] wrong = {-1, 2, Integer.MIN_VALUE, Integer.MAX_VALUE};
        for (int which : wrong) {
            StackCoder x = wellRun();
            Check.due("refused run", x.run(which), -1);
            dueUnchanged("run", x);
        }
    }
}
