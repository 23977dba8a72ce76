/** The boundary cases of promise 10, a test for each sentence that names one. */
public final class LiveEdgesTest {
    public static void main(String[] args) {
        minus1IfThereIsNone();
        sumOfPowers();
        asTheCodeIsNow();
        readsAsTold();
        namedTwice();
        writersAre0To6();
        readBeforeWritten();
        zeroBothWays();
        jumpOneWay();
        endNoWay();
        behindTheLast();
        wayBackToItself();
        longestWay();
        Check.end();
    }

    private static void dueLive(String what, String code, String want) {
        Check.due(what, Text.live(Text.coder(3, code)), want);
    }

    /** Promise 10: "-1 if there is none." */
    private static void minus1IfThereIsNone() {
        Check.due("no code: live(0)", new StackCoder(3).live(0), -1);
        StackCoder x = Text.coder(3, "PRINT 1; PRINT 2");
        int[] others = {-1, 2, 39, 40, Integer.MIN_VALUE, Integer.MAX_VALUE};
        for (int i : others) {
            Check.due("live(" + i + ")", x.live(i), -1);
        }
        x.cut(1);
        Check.due("live of what was cut off", x.live(1), -1);
        StackCoder full = Text.coder(3, Text.times(40, "PRINT 0"));
        Check.due("40: live(39)", full.live(39), 1);
        Check.due("40: live(40)", full.live(40), -1);
    }

    /** Promise 10: "the sum of 2^register": none, register 0, register 9, all. */
    private static void sumOfPowers() {
        dueLive("none", "CONST 1 5", "0");
        dueLive("r0", "PRINT 0", "1");
        dueLive("r9", "PRINT 9", "512");
        dueLive("all", "STORE 0 1; STORE 2 3; STORE 4 5; STORE 6 7; STORE 8 9", "1023 1020 1008 960 768");
    }

    /** Promise 10: "live before instruction i", of the code as it is, behind each change. */
    private static void asTheCodeIsNow() {
        StackCoder x = Text.coder(3, "CONST 1 5; PRINT 1");
        Check.due("before", Text.live(x), "0 2");
        Text.add(x, "PRINT 3");
        Check.due("behind add", Text.live(x), "8 10 8");
        Text.set(x, 1, "PRINT 2");
        Check.due("behind set", Text.live(x), "12 12 8");
        x.cut(1);
        Check.due("behind cut", Text.live(x), "0");
        StackCoder loop = Text.coder(3, "PRINT 1; JUMP 0");
        Check.due("round", Text.live(loop), "2 2");
        Text.set(loop, 0, "END");
        Check.due("no longer round", Text.live(loop), "0 0");
        Text.set(loop, 0, "JUMP 1");
        Check.due("round, none reads", Text.live(loop), "0 0");
        StackCoder itself = Text.coder(3, "PRINT 1");
        Check.due("before", Text.live(itself), "2");
        Text.set(itself, 0, "JUMP 0");
        Check.due("what was read once is forgotten", Text.live(itself), "0");
    }

    /** Terms: "READ the registers named a and b as told": no value, no place, no 0 for unused. */
    private static void readsAsTold() {
        dueLive("CONST", "CONST 1 9", "0");
        dueLive("COPY", "COPY 1 9", "512");
        dueLive("ADD", "ADD 1 2 3", "12");
        dueLive("SUB", "SUB 1 2 3", "12");
        dueLive("MUL", "MUL 1 2 3", "12");
        dueLive("LESS", "LESS 1 2 3", "12");
        dueLive("LOAD", "LOAD 1 9", "512");
        dueLive("STORE", "STORE 2 3", "12");
        dueLive("PRINT", "PRINT 9", "512");
        dueLive("JUMP", "JUMP 9", "0");
        dueLive("ZERO", "ZERO 9 8", "512");
        dueLive("END", "END", "0");
    }

    /** Terms: "(a register named twice is read twice)": it is live, and counts once. */
    private static void namedTwice() {
        dueLive("ADD", "ADD 1 2 2", "4");
        dueLive("STORE", "STORE 2 2", "4");
    }

    /** Terms: "WRITERS are 0 .. 6, they write d": the d of the others, 0, is not written. */
    private static void writersAre0To6() {
        dueLive("CONST", "CONST 0 5; PRINT 0", "0 1");
        dueLive("COPY", "COPY 0 2; PRINT 0", "4 1");
        dueLive("ADD", "ADD 0 2 3; PRINT 0", "12 1");
        dueLive("SUB", "SUB 0 2 3; PRINT 0", "12 1");
        dueLive("MUL", "MUL 0 2 3; PRINT 0", "12 1");
        dueLive("LESS", "LESS 0 2 3; PRINT 0", "12 1");
        dueLive("LOAD", "LOAD 0 2; PRINT 0", "4 1");
        dueLive("STORE", "STORE 2 3; PRINT 0", "13 1");
        dueLive("PRINT", "PRINT 2; PRINT 0", "5 1");
        dueLive("JUMP", "JUMP 1; PRINT 0", "1 1");
        dueLive("ZERO", "ZERO 2 1; PRINT 0", "5 1");
    }

    /** Terms: "an instruction that reads it before one that writes it": one may do both. */
    private static void readBeforeWritten() {
        dueLive("one does both", "ADD 1 1 2; CONST 1 5", "6 0");
        dueLive("written first", "CONST 1 5; PRINT 1", "0 2");
        dueLive("read first", "PRINT 1; CONST 1 5", "2 0");
        dueLive("never read", "CONST 1 5; CONST 1 6", "0 0");
    }

    /** Terms: "(each ZERO both ways)", also where its register was made 0 right before. */
    private static void zeroBothWays() {
        dueLive("both", "ZERO 3 3; PRINT 1; END; PRINT 2", "14 2 0 4");
        dueLive("of a known 0", "CONST 3 0; ZERO 3 4; PRINT 1; END; PRINT 2", "6 14 2 0 4");
        dueLive("of a known 5", "CONST 3 5; ZERO 3 4; PRINT 1; END; PRINT 2", "6 14 2 0 4");
        dueLive("written on one way", "ZERO 3 2; CONST 1 5; PRINT 1", "10 0 2");
    }

    /** Terms: "some way over the code": a JUMP goes one way only. */
    private static void jumpOneWay() {
        dueLive("over one", "JUMP 2; PRINT 1; PRINT 2", "4 6 4");
        dueLive("to the next", "JUMP 1; PRINT 1", "2 2");
    }

    /** Terms: "some way over the code": none goes on from END. */
    private static void endNoWay() {
        dueLive("END", "END; PRINT 1", "0 2");
    }

    /** Terms: "behind the last instruction (also by a jump there or beyond)": nothing is live. */
    private static void behindTheLast() {
        dueLive("by the last", "PRINT 1; CONST 2 5", "2 0");
        dueLive("JUMP there", "JUMP 2; PRINT 1", "0 2");
        dueLive("JUMP beyond", "JUMP 39; PRINT 1", "0 2");
        dueLive("ZERO there", "ZERO 3 2; PRINT 1", "10 2");
        dueLive("ZERO as the last", "PRINT 1; ZERO 3 39", "10 8");
        StackCoder x = Text.coder(3, "JUMP 2; PRINT 1; PRINT 2");
        Check.due("before the cut", Text.live(x), "4 6 4");
        x.cut(2);
        Check.due("JUMP to what was cut off", Text.live(x), "0 2");
    }

    /** Terms: "some way over the code": also one that comes back. */
    private static void wayBackToItself() {
        dueLive("JUMP to itself", "JUMP 0; PRINT 1", "0 2");
        dueLive("ZERO to itself", "ZERO 1 0; PRINT 2", "6 4");
        dueLive("round", "PRINT 1; CONST 2 5; JUMP 0", "2 2 2");
        dueLive("round, all read", "PRINT 1; PRINT 2; ZERO 3 0", "14 14 14");
        dueLive("round, written", "PRINT 1; CONST 1 5; JUMP 0", "2 0 2");
    }

    /** Terms: "some way over the code": one over all 40, from the last back to the first. */
    private static void longestWay() {
        StackCoder x = new StackCoder(3);
        Text.add(x, "PRINT 9");
        for (int i = 1; i < 40; i++) {
            Text.add(x, "JUMP " + (i - 1));
        }
        for (int i = 0; i < 40; i++) {
            Check.due("backwards: live(" + i + ")", x.live(i), 512);
        }
    }
}
