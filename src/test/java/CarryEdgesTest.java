/** The boundary cases of promises 8, 9 and 12, a test for each sentence that names one. */
public final class CarryEdgesTest {
    private static final int[] NO_NUMBERS_OF_TWO = {-1, 2, 39, 40, Integer.MIN_VALUE, Integer.MAX_VALUE};

    public static void main(String[] args) {
        carriedOfNone();
        needOfNone();
        depthOfNone();
        asTheCodeIsNow();
        blockBeginsAtAGoal();
        blockBeginsBehind();
        nothingBetweenWritesD();
        exactlyOnce();
        noOtherReads();
        nextWriterAmongThem();
        toTheBlocksEnd();
        notLiveAtTheEnd();
        oneOfTheTwo();
        liveButWrittenBehind();
        nothingBetweenWritesWhatIsRead();
        noStoreBetween();
        treeReads();
        firstAThenB();
        lastWriterIfThereIsOne();
        notMoreThanD();
        needOfWhatReadsNothing();
        needOfOneThing();
        needOfTwoThings();
        greatestNeed();
        longestChain();
        Check.end();
    }

    private static void dueCarried(String what, String code, String want) {
        Check.due(what, Text.carried(Text.coder(3, code)), want);
    }

    private static void dueNeeds(String what, String code, String want) {
        Check.due(what, Text.needs(Text.coder(3, code)), want);
    }

    /** Promise 8: "-1 if it is not, or there is none." */
    private static void carriedOfNone() {
        Check.due("no code: carried(0)", new StackCoder(3).carried(0), -1);
        StackCoder x = Text.coder(3, "CONST 1 5; PRINT 1");
        Check.due("it is not: carried(1)", x.carried(1), -1);
        Check.due("it is: carried(0)", x.carried(0), 1);
        for (int i : NO_NUMBERS_OF_TWO) {
            Check.due("there is none: carried(" + i + ")", x.carried(i), -1);
        }
        StackCoder cut = Text.coder(3, "PRINT 2; CONST 1 5; PRINT 1");
        Check.due("before cut: carried(1)", cut.carried(1), 2);
        cut.cut(1);
        Check.due("cut off: carried(1)", cut.carried(1), -1);
    }

    /** Promise 9: "-1 if there is none." */
    private static void needOfNone() {
        Check.due("no code: need(0)", new StackCoder(3).need(0), -1);
        StackCoder x = Text.coder(3, "CONST 1 5; PRINT 1");
        for (int i : NO_NUMBERS_OF_TWO) {
            Check.due("there is none: need(" + i + ")", x.need(i), -1);
        }
        Check.due("before cut: need(1)", x.need(1), 1);
        x.cut(1);
        Check.due("cut off: need(1)", x.need(1), -1);
        StackCoder full = Text.coder(3, Text.times(40, "PRINT 1"));
        Check.due("40: need(39)", full.need(39), 1);
        Check.due("40: need(40)", full.need(40), -1);
    }

    /** Promise 12: "0 if there is none." */
    private static void depthOfNone() {
        Check.due("no code: depth()", new StackCoder(8).depth(), 0);
        StackCoder x = Text.coder(3, "ADD 1 2 3");
        Check.due("before cut: depth()", x.depth(), 2);
        x.cut(0);
        Check.due("cut off: depth()", x.depth(), 0);
    }

    /** Promises 8, 9, 12 tell of the code as it is, behind each change. */
    private static void asTheCodeIsNow() {
        StackCoder x = Text.coder(3, "CONST 1 5; PRINT 1");
        Check.due("before", Text.carried(x), "1 -1");
        Text.add(x, "PRINT 1");
        Check.due("behind add", Text.carried(x), "-1 -1 -1");
        Text.set(x, 1, "ADD 2 3 4");
        Check.due("behind set", Text.carried(x), "2 -1 -1");
        Check.due("behind set", Text.needs(x), "1 2 1");
        x.cut(1);
        Check.due("behind cut", Text.carried(x), "-1");
        Check.due("behind cut: depth()", x.depth(), 1);
    }

    /** Terms: "A BLOCK begins [...] at each instruction to which one goes on by a JUMP or ZERO". */
    private static void blockBeginsAtAGoal() {
        dueCarried("no goal", "CONST 1 5; PRINT 1; END; JUMP 3", "1 -1 -1 -1");
        dueCarried("JUMP to j", "CONST 1 5; PRINT 1; END; JUMP 1", "-1 -1 -1 -1");
        dueCarried("ZERO to j", "CONST 1 5; PRINT 1; END; ZERO 2 1", "-1 -1 -1 -1");
        dueCarried("JUMP to i", "PRINT 2; CONST 1 5; PRINT 1; END; JUMP 1", "-1 2 -1 -1 -1");
        dueCarried("JUMP between", "CONST 1 5; PRINT 2; PRINT 1; END; JUMP 1", "-1 -1 -1 -1 -1");
        dueCarried("JUMP behind j", "CONST 1 5; PRINT 1; PRINT 2; END; JUMP 2", "1 -1 -1 -1 -1");
    }

    /** Terms: "A BLOCK begins [...] behind each JUMP, ZERO and END", behind no other. */
    private static void blockBeginsBehind() {
        dueCarried("behind JUMP", "CONST 1 5; JUMP 0; PRINT 1", "-1 -1 -1");
        dueCarried("behind ZERO", "CONST 1 5; ZERO 2 0; PRINT 1", "-1 -1 -1");
        dueCarried("behind END", "CONST 1 5; END; PRINT 1", "-1 -1 -1");
        dueCarried("behind PRINT", "CONST 1 5; PRINT 2; PRINT 1", "2 -1 -1");
        dueCarried("behind STORE", "CONST 1 5; STORE 2 3; PRINT 1", "2 -1 -1");
        dueCarried("into ZERO, the block's last", "CONST 1 5; ZERO 1 0; END", "1 -1 -1");
    }

    /** Terms: "no instruction between writes d". */
    private static void nothingBetweenWritesD() {
        dueCarried("written between", "CONST 1 5; CONST 1 6; PRINT 1", "-1 2 -1");
        dueCarried("written behind", "CONST 1 5; PRINT 1; CONST 1 6", "1 -1 -1");
        dueCarried("written by j", "CONST 1 5; ADD 1 1 2; PRINT 1", "1 2 -1");
        dueCarried("written before i", "CONST 1 6; CONST 1 5; PRINT 1", "-1 2 -1");
    }

    /** Terms: "j reads d exactly once", "(a register named twice is read twice)". */
    private static void exactlyOnce() {
        dueCarried("as a", "CONST 1 5; SUB 2 1 3", "1 -1");
        dueCarried("as b", "CONST 1 5; SUB 2 3 1", "1 -1");
        dueCarried("as both", "CONST 1 5; SUB 2 1 1", "-1 -1");
        dueCarried("STORE, as both", "CONST 1 5; STORE 1 1", "-1 -1");
        dueCarried("not at all, by a value", "CONST 1 5; CONST 2 1", "-1 -1");
        dueCarried("not at all, by a place", "CONST 1 5; ZERO 2 1", "-1 -1");
        dueCarried("not at all, by an unused 0", "CONST 0 5; PRINT 2", "-1 -1");
    }

    /** Terms: "No instruction but j reads d, of those behind i". */
    private static void noOtherReads() {
        dueCarried("one before j", "CONST 1 5; PRINT 1; PRINT 1", "-1 -1 -1");
        dueCarried("one far behind j", "CONST 1 5; PRINT 1; PRINT 2; PRINT 1", "-1 -1 -1 -1");
        dueCarried("one before i", "PRINT 1; CONST 1 5; PRINT 1", "-1 2 -1");
        dueCarried("i itself", "ADD 1 1 2; PRINT 1", "1 -1");
    }

    /** Terms: "up to the next one in the block that writes d (that one among them)". */
    private static void nextWriterAmongThem() {
        dueCarried("it reads d", "CONST 1 5; PRINT 1; COPY 1 1; PRINT 1", "-1 -1 3 -1");
        dueCarried("it reads d as b", "CONST 1 5; PRINT 1; SUB 1 2 1; PRINT 1", "-1 -1 3 -1");
        dueCarried("it does not", "CONST 1 5; PRINT 1; COPY 1 2; PRINT 1", "1 -1 3 -1");
        dueCarried("read behind it", "CONST 1 5; PRINT 1; COPY 1 2; PRINT 1; PRINT 1", "1 -1 -1 -1 -1");
        dueCarried("j is that one", "CONST 1 5; COPY 1 1; PRINT 1; PRINT 1", "1 -1 -1 -1");
    }

    /** Terms: "or to the block's end": the block's last instruction is looked at too. */
    private static void toTheBlocksEnd() {
        dueCarried("the last reads d", "CONST 1 5; PRINT 1; ZERO 1 0", "-1 -1 -1");
        dueCarried("the last reads another", "CONST 1 5; PRINT 1; ZERO 2 0", "1 -1 -1");
        dueCarried("one behind the block, behind a writer",
            "CONST 1 5; PRINT 1; JUMP 3; CONST 1 6; PRINT 1", "1 -1 -1 4 -1");
    }

    /** Terms: "If no instruction behind i in the block writes d, d is not live at the block's end". */
    private static void notLiveAtTheEnd() {
        dueCarried("live by JUMP", "CONST 1 5; PRINT 1; JUMP 4; END; PRINT 1", "-1 -1 -1 -1 -1");
        dueCarried("live by going on", "CONST 1 5; PRINT 1; PRINT 1; JUMP 2", "-1 -1 -1 -1");
        dueCarried("not live by JUMP", "CONST 1 5; PRINT 1; JUMP 4; PRINT 1; END", "1 -1 -1 -1 -1");
        dueCarried("not live behind END", "CONST 1 5; PRINT 1; END; PRINT 1", "1 -1 -1 -1");
        dueCarried("JUMP behind the last", "CONST 1 5; PRINT 1; JUMP 4; PRINT 1", "1 -1 -1 -1");
        dueCarried("JUMP beyond", "CONST 1 5; PRINT 1; JUMP 39; PRINT 1", "1 -1 -1 -1");
        dueCarried("live round to the block itself", "PRINT 1; CONST 1 5; PRINT 1; JUMP 0", "-1 -1 -1 -1");
    }

    /** Terms: "or one of the two instructions, to which one goes on". */
    private static void oneOfTheTwo() {
        dueCarried("the one named", "CONST 1 5; PRINT 1; ZERO 2 4; END; PRINT 1", "-1 -1 -1 -1 -1");
        dueCarried("the next one", "CONST 1 5; PRINT 1; ZERO 2 4; PRINT 1; END", "-1 -1 -1 -1 -1");
        dueCarried("none of the two", "CONST 1 5; PRINT 1; ZERO 2 4; END; END; PRINT 1", "1 -1 -1 -1 -1 -1");
        dueCarried("into ZERO itself", "CONST 1 5; ZERO 1 3; END; PRINT 1", "-1 -1 -1 -1");
    }

    /** Terms: "If no instruction behind i in the block writes d": if one does, live is free. */
    private static void liveButWrittenBehind() {
        dueCarried("behind j", "CONST 1 5; PRINT 1; CONST 1 6; JUMP 5; END; PRINT 1", "1 -1 -1 -1 -1 -1");
        dueCarried("j itself", "CONST 1 5; ADD 1 1 2; JUMP 4; END; PRINT 1", "1 -1 -1 -1 -1");
    }

    /** Terms: "No instruction between writes a register that the tree of i reads." */
    private static void nothingBetweenWritesWhatIsRead() {
        dueCarried("a", "ADD 3 1 2; CONST 1 5; PRINT 3", "-1 -1 -1");
        dueCarried("b", "ADD 3 1 2; CONST 2 5; PRINT 3", "-1 -1 -1");
        dueCarried("neither", "ADD 3 1 2; CONST 4 5; PRINT 3", "2 -1 -1");
        dueCarried("by j", "ADD 3 1 2; COPY 1 3; PRINT 1", "1 2 -1");
        dueCarried("by i", "ADD 1 1 2; PRINT 5; PRINT 1", "2 -1 -1");
        dueCarried("before i", "CONST 1 5; ADD 3 1 2; PRINT 3", "1 2 -1");
        dueCarried("behind j", "ADD 3 1 2; PRINT 3; CONST 1 5", "1 -1 -1");
        dueCarried("by one that waits itself", "COPY 3 1; CONST 1 5; ADD 4 3 1; PRINT 4", "-1 2 3 -1");
        dueCarried("an unused 0 is not read", "CONST 3 1; CONST 0 5; PRINT 3", "2 -1 -1");
    }

    /** Terms: "If the tree of i has a LOAD, no instruction between is a STORE." */
    private static void noStoreBetween() {
        dueCarried("between", "LOAD 1 2; STORE 3 4; PRINT 1", "-1 -1 -1");
        dueCarried("deep in the tree", "LOAD 1 2; COPY 1 1; COPY 1 1; STORE 3 4; PRINT 1", "1 2 -1 -1 -1");
        dueCarried("j is it", "LOAD 1 2; STORE 3 1", "1 -1");
        dueCarried("j is it, as a", "LOAD 1 2; STORE 1 3", "1 -1");
        dueCarried("before i", "STORE 3 4; LOAD 1 2; PRINT 1", "-1 2 -1");
        dueCarried("behind j", "LOAD 1 2; PRINT 1; STORE 3 4", "1 -1 -1");
        dueCarried("no LOAD", "COPY 1 2; STORE 3 4; PRINT 1", "2 -1 -1");
        dueCarried("another LOAD between", "LOAD 1 2; LOAD 3 4; PRINT 1", "2 -1 -1");
    }

    /** Terms: "it READS the registers that its instructions read, but for those through which". */
    private static void treeReads() {
        dueCarried("what the carried one reads", "COPY 1 2; COPY 3 1; CONST 2 5; PRINT 3", "1 -1 -1 -1");
        dueCarried("through which it was carried", "COPY 1 2; COPY 3 1; CONST 1 5; PRINT 3", "1 3 -1 -1");
        dueCarried("read deeper all the same", "COPY 1 1; COPY 3 1; CONST 1 5; PRINT 3", "1 -1 -1 -1");
        dueCarried("beside a carried one", "COPY 1 2; ADD 3 1 4; CONST 4 5; PRINT 3", "1 -1 -1 -1");
    }

    /** Terms: "first for what a names, then for what b names": only one has room. */
    private static void firstAThenB() {
        Check.due("a was written first",
            Text.carried(Text.coder(2, "ADD 5 1 2; ADD 6 3 4; SUB 7 5 6")), "2 -1 -1");
        Check.due("b was written first",
            Text.carried(Text.coder(2, "ADD 5 1 2; ADD 6 3 4; SUB 7 6 5")), "-1 2 -1");
        Check.due("a cannot be carried",
            Text.carried(Text.coder(2, "ADD 5 1 2; ADD 6 3 4; SUB 7 5 6; PRINT 5")), "-1 2 -1 -1");
        Check.due("both have room",
            Text.carried(Text.coder(3, "ADD 5 1 2; ADD 6 3 4; SUB 7 5 6")), "2 2 -1");
        Check.due("b of JUMP, ZERO, LOAD is not read",
            Text.carried(Text.coder(3, "CONST 0 5; LOAD 1 2; ZERO 1 0")), "-1 2 -1");
    }

    /** Terms: "the last writer of that register before j in its block, if there is one". */
    private static void lastWriterIfThereIsOne() {
        dueCarried("none", "PRINT 1", "-1");
        dueCarried("none before j", "PRINT 1; CONST 1 5", "-1 -1");
        dueCarried("only j itself", "COPY 1 1", "-1");
        dueCarried("none in the block", "CONST 1 5; JUMP 2; PRINT 1", "-1 -1 -1");
        dueCarried("the block's first", "JUMP 1; CONST 1 5; PRINT 1", "-1 2 -1");
        dueCarried("the last of three", "CONST 1 5; CONST 1 6; CONST 1 7; PRINT 1", "-1 -1 3 -1");
    }

    /** Terms: "and the NEED of j [...] is not more than D": just D has room, 1 more has none. */
    private static void notMoreThanD() {
        String four = "ADD 5 1 2; ADD 6 3 4; ADD 7 5 6";
        Check.due("need 3, D 3", Text.carried(Text.coder(3, four)), "2 2 -1");
        Check.due("need 3, D 2", Text.carried(Text.coder(2, four)), "2 -1 -1");
        Check.due("need 2, D 1", Text.carried(Text.coder(1, four)), "-1 -1 -1");
        Check.due("need 1, D 1", Text.carried(Text.coder(1, "CONST 1 5; COPY 2 1; PRINT 2")), "1 2 -1");
        Check.due("need 2 by j's own two, D 1", Text.carried(Text.coder(1, "CONST 1 5; ADD 2 1 3")), "-1 -1");
        Check.due("need 2 by j's own two, D 2", Text.carried(Text.coder(2, "CONST 1 5; ADD 2 1 3")), "1 -1");
        Check.due("the carried need 2, D 1", Text.carried(Text.coder(1, "ADD 1 2 3; PRINT 1")), "-1 -1");
        Check.due("the carried need 2, D 2", Text.carried(Text.coder(2, "ADD 1 2 3; PRINT 1")), "1 -1");
    }

    /** Terms: "of an instruction that reads nothing 1 (of JUMP and END 0)". */
    private static void needOfWhatReadsNothing() {
        dueNeeds("CONST, JUMP, END", "CONST 1 5; JUMP 0; END", "1 0 0");
        Check.due("JUMP alone: depth()", Text.coder(3, "JUMP 0").depth(), 0);
        Check.due("END alone: depth()", Text.coder(3, "END").depth(), 0);
        Check.due("CONST alone: depth()", Text.coder(3, "CONST 1 5").depth(), 1);
    }

    /** Terms: "The NEED of a register that is read is 1, of a carried writer its own; [...] one thing". */
    private static void needOfOneThing() {
        dueNeeds("a register", "COPY 1 2; LOAD 3 4; PRINT 5; ZERO 6 0", "1 1 1 1");
        dueNeeds("a carried writer", "ADD 1 2 3; PRINT 1", "2 2");
        dueNeeds("a writer that is not carried", "ADD 1 2 3; PRINT 1; PRINT 1", "2 1 1");
        dueNeeds("through COPY and LOAD", "ADD 1 2 3; COPY 1 1; LOAD 1 1; ZERO 1 0", "2 2 2 2");
    }

    /** Terms: "two things: the greater need, or 1 more, if they are equal." */
    private static void needOfTwoThings() {
        dueNeeds("equal: two registers", "ADD 1 2 3", "2");
        dueNeeds("equal: one register twice", "MUL 1 2 2", "2");
        dueNeeds("equal: STORE", "STORE 2 3", "2");
        dueNeeds("equal: a constant and a register", "CONST 1 5; ADD 2 1 3", "1 2");
        dueNeeds("greater is a", "ADD 1 2 3; SUB 4 1 5", "2 2");
        dueNeeds("greater is b", "ADD 1 2 3; SUB 4 5 1", "2 2");
        dueNeeds("equal: 2 and 2", "ADD 1 2 3; ADD 4 5 6; LESS 7 1 4", "2 2 3");
        dueNeeds("3 and 2", "ADD 1 2 3; ADD 4 5 6; LESS 7 1 4; ADD 1 2 3; STORE 7 1", "2 2 3 2 3");
    }

    /** Promise 12: "The greatest need of an instruction": the first, a carried one, above D. */
    private static void greatestNeed() {
        Check.due("of the first", Text.coder(3, "ADD 1 2 3; PRINT 5").depth(), 2);
        Check.due("of the last", Text.coder(3, "PRINT 5; ADD 1 2 3").depth(), 2);
        Check.due("of one that is carried", Text.coder(3, "ADD 1 2 3; PRINT 1").depth(), 2);
        Check.due("above D", Text.coder(1, "ADD 1 2 3").depth(), 2);
    }

    /** Terms: "at most 40 INSTRUCTIONS": all but the last carried, each into the next. */
    private static void longestChain() {
        StackCoder x = Text.coder(2, "CONST 1 1; " + Text.times(38, "SUB 1 2 1") + "; PRINT 1");
        for (int i = 0; i < 39; i++) {
            Check.due("chain: carried(" + i + ")", x.carried(i), i + 1);
        }
        Check.due("chain: carried(39)", x.carried(39), -1);
        Check.due("chain: need(39)", x.need(39), 2);
        Check.due("chain: depth()", x.depth(), 2);
    }
}
