/** The boundary cases of promises 6, 7 and 11, a test for each sentence that names one. */
public final class CodeEdgesTest {
    public static void main(String[] args) {
        lengthOfNone();
        asTheCodeIsNow();
        codeOfNone();
        pushPlus1000();
        plusRegister();
        plusPlace();
        plus0ForTheOthers();
        notCarriedInTheirOrder();
        greaterNeedFirst();
        equalNeedsAFirst();
        swapIfBCameFirst();
        noSwapForAddAndMul();
        copyHasNone();
        placeOfTheFirstNotCarried();
        placeBehindTheLast();
        putIfReadBehind();
        putIfLiveAtTheEnd();
        elseDrop();
        endBehindAll();
        storesOfNone();
        mostStores();
        longestCode();
        Check.end();
    }

    private static void dueCode(String what, String code, String want) {
        Check.due(what, Text.stackCode(Text.coder(3, code)), want);
    }

    /** Promise 6: "How many operations the stack code has": of no code one, its END. */
    private static void lengthOfNone() {
        StackCoder x = new StackCoder(3);
        Check.due("none: length()", x.length(), 1);
        Check.due("none: code(0)", x.code(0), 140000);
    }

    /** Promise 6: "(of the code as it is now)": behind add, set and cut, also refused ones. */
    private static void asTheCodeIsNow() {
        StackCoder x = Text.coder(3, "CONST 1 5; PRINT 1");
        Check.due("before: length()", x.length(), 3);
        Text.add(x, "PRINT 1");
        Check.due("behind add: length()", x.length(), 7);
        Check.due("behind add: stores()", x.stores(), 1);
        Text.set(x, 2, "PRINT 2");
        Check.due("behind set: length()", x.length(), 5);
        Check.due("behind set: stores()", x.stores(), 0);
        x.cut(1);
        Check.due("behind cut: length()", x.length(), 3);
        Check.due("behind cut: code(1)", x.code(1), 30000);
        x.cut(0);
        Check.due("behind cut to none: length()", x.length(), 1);
        x.add(12, 0, 0, 0);
        Check.due("behind refused add: length()", x.length(), 1);
    }

    /** Promise 7: "-1 if there is none." */
    private static void codeOfNone() {
        StackCoder none = new StackCoder(3);
        Check.due("none: code(1)", none.code(1), -1);
        Check.due("none: code(-1)", none.code(-1), -1);
        StackCoder x = Text.coder(3, "PRINT 1; PRINT 2");
        Check.due("the last: code(4)", x.code(4), 140000);
        int[] others = {-1, 5, 6, 160, 200, 201, Integer.MIN_VALUE, Integer.MAX_VALUE};
        for (int p : others) {
            Check.due("code(" + p + ")", x.code(p), -1);
        }
        x.cut(1);
        Check.due("cut off: code(3)", x.code(3), -1);
    }

    /** Promise 7: "10000 * operation + 1000 + n, for PUSH": from -999 to 999. */
    private static void pushPlus1000() {
        int[] numbers = {-999, -1, 0, 1, 999};
        for (int n : numbers) {
            Check.due("PUSH " + n, Text.coder(3, "CONST 1 " + n).code(0), 1000 + n);
        }
    }

    /** Promise 7: "+ r": registers 0 and 9, GET and PUT. */
    private static void plusRegister() {
        StackCoder r0 = Text.coder(3, "COPY 0 9; STORE 0 0");
        Check.due("GET 9", r0.code(0), 10009);
        Check.due("PUT 0", r0.code(1), 20000);
        StackCoder r9 = Text.coder(3, "COPY 9 0; STORE 9 9");
        Check.due("GET 0", r9.code(0), 10000);
        Check.due("PUT 9", r9.code(1), 20009);
    }

    /** Promise 7: "+ the place p": the first and the farthest that there can be. */
    private static void plusPlace() {
        Check.due("JUMP to the first", Text.coder(3, "JUMP 0").code(0), 120000);
        Check.due("ZERO to the first", Text.coder(3, "ZERO 1 0").code(1), 130000);
        StackCoder jump = Text.coder(3, "JUMP 39; " + Text.times(38, "ADD 1 1 1") + "; PRINT 1");
        Check.due("JUMP to the last of 40", jump.code(0), 120000 + 1 + 38 * 4);
        StackCoder zero = Text.coder(3, "ZERO 1 39; " + Text.times(38, "ADD 1 1 1") + "; PRINT 1");
        Check.due("ZERO to the last of 40", zero.code(1), 130000 + 2 + 38 * 4);
    }

    /** Promise 7: "+ 0 for the others." */
    private static void plus0ForTheOthers() {
        String[] codes = {"CONST 9 9", "ADD 9 8 7", "SUB 9 8 7", "MUL 9 8 7", "LESS 9 8 7", "LOAD 9 8",
            "STORE 9 8", "PRINT 9", "END"};
        int[] places = {1, 2, 2, 2, 2, 1, 2, 1, 0};
        int[] operations = {3, 5, 6, 7, 8, 9, 10, 11, 14};
        for (int k = 0; k < codes.length; k++) {
            Check.due(codes[k], Text.coder(3, codes[k]).code(places[k]), 10000 * operations[k]);
        }
        StackCoder swap = Text.coder(3, "ADD 3 1 2; SUB 9 8 3");
        Check.due("SWAP", swap.code(4), 40000);
    }

    /** Terms: "for each instruction j that is not carried, in their order, the code of its tree". */
    private static void notCarriedInTheirOrder() {
        dueCode("none is carried", "PRINT 1; PRINT 2", "GET 1; PRINT; GET 2; PRINT; END");
        dueCode("one waits over another", "CONST 1 5; PRINT 2; PRINT 1", "GET 2; PRINT; PUSH 5; PRINT; END");
        dueCode("all in one tree", "CONST 1 5; LOAD 1 1; COPY 1 1; PRINT 1", "PUSH 5; LOAD; PRINT; END");
    }

    /** Terms: "of two things the one with the greater need first". */
    private static void greaterNeedFirst() {
        dueCode("a", "ADD 3 1 2; MUL 4 3 5; PRINT 4", "GET 1; GET 2; ADD; GET 5; MUL; PRINT; END");
        dueCode("b", "ADD 3 1 2; MUL 4 5 3; PRINT 4", "GET 1; GET 2; ADD; GET 5; MUL; PRINT; END");
        dueCode("b, both being carried", "CONST 1 5; ADD 3 6 7; MUL 4 1 3; PRINT 4",
            "GET 6; GET 7; ADD; PUSH 5; MUL; PRINT; END");
    }

    /** Terms: "of equal needs a first", also where b was written before a. */
    private static void equalNeedsAFirst() {
        dueCode("two registers", "SUB 1 2 3; PRINT 1", "GET 2; GET 3; SUB; PRINT; END");
        dueCode("a register and a constant", "CONST 1 5; SUB 1 2 1; PRINT 1", "GET 2; PUSH 5; SUB; PRINT; END");
        dueCode("b was written first", "CONST 1 5; CONST 2 6; SUB 3 2 1; PRINT 3",
            "PUSH 6; PUSH 5; SUB; PRINT; END");
        dueCode("2 and 2", "ADD 1 8 9; MUL 2 8 9; SUB 3 2 1; PRINT 3",
            "GET 8; GET 9; MUL; GET 8; GET 9; ADD; SUB; PRINT; END");
    }

    /** Terms: "If b came first, and the operation is SUB, LESS or STORE: SWAP." */
    private static void swapIfBCameFirst() {
        dueCode("SUB", "ADD 3 1 2; SUB 4 5 3; PRINT 4", "GET 1; GET 2; ADD; GET 5; SWAP; SUB; PRINT; END");
        dueCode("LESS", "ADD 3 1 2; LESS 4 5 3; PRINT 4", "GET 1; GET 2; ADD; GET 5; SWAP; LESS; PRINT; END");
        dueCode("STORE", "ADD 3 1 2; STORE 5 3", "GET 1; GET 2; ADD; GET 5; SWAP; STORE; END");
        dueCode("SUB, a first", "ADD 3 1 2; SUB 4 3 5; PRINT 4", "GET 1; GET 2; ADD; GET 5; SUB; PRINT; END");
        dueCode("LESS, a first", "ADD 3 1 2; LESS 4 3 5; PRINT 4", "GET 1; GET 2; ADD; GET 5; LESS; PRINT; END");
        dueCode("STORE, a first", "ADD 3 1 2; STORE 3 5", "GET 1; GET 2; ADD; GET 5; STORE; END");
    }

    /** Terms: "If b came first, and the operation is SUB, LESS or STORE": no SWAP for ADD, MUL. */
    private static void noSwapForAddAndMul() {
        dueCode("ADD", "SUB 3 1 2; ADD 4 5 3; PRINT 4", "GET 1; GET 2; SUB; GET 5; ADD; PRINT; END");
        dueCode("MUL", "SUB 3 1 2; MUL 4 5 3; PRINT 4", "GET 1; GET 2; SUB; GET 5; MUL; PRINT; END");
    }

    /** Terms: "COPY has none". */
    private static void copyHasNone() {
        dueCode("kept", "COPY 1 2; STORE 1 1", "GET 2; PUT 1; GET 1; GET 1; STORE; END");
        dueCode("not used", "COPY 1 2", "GET 2; DROP; END");
        dueCode("carried", "COPY 1 2; PRINT 1", "GET 2; PRINT; END");
        dueCode("of a tree", "ADD 1 2 3; COPY 4 1; STORE 4 4",
            "GET 2; GET 3; ADD; PUT 4; GET 4; GET 4; STORE; END");
    }

    /** Terms: "the first instruction, from the one that they name on, that is not carried". */
    private static void placeOfTheFirstNotCarried() {
        dueCode("the one named", "JUMP 2; PRINT 1; PRINT 2", "JUMP 3; GET 1; PRINT; GET 2; PRINT; END");
        dueCode("the next one", "JUMP 2; PRINT 1; CONST 2 5; PRINT 2", "JUMP 3; GET 1; PRINT; PUSH 5; PRINT; END");
        dueCode("one between", "ZERO 9 2; PRINT 1; CONST 2 5; PRINT 3; PRINT 2",
            "GET 9; ZERO 4; GET 1; PRINT; GET 3; PRINT; PUSH 5; PRINT; END");
        dueCode("behind two", "ZERO 9 1; CONST 1 5; CONST 2 6; STORE 1 2",
            "GET 9; ZERO 2; PUSH 5; PUSH 6; STORE; END");
        dueCode("itself", "JUMP 0", "JUMP 0; END");
        dueCode("itself, its tree", "JUMP 1; CONST 1 5; ZERO 1 1", "JUMP 1; PUSH 5; ZERO 1; END");
    }

    /** Terms: "(also by a jump there or beyond)": the place is that of the END behind all. */
    private static void placeBehindTheLast() {
        dueCode("JUMP there", "JUMP 2; PRINT 1", "JUMP 3; GET 1; PRINT; END");
        dueCode("JUMP beyond", "JUMP 39; PRINT 1", "JUMP 3; GET 1; PRINT; END");
        dueCode("ZERO there", "ZERO 2 2; PRINT 1", "GET 2; ZERO 4; GET 1; PRINT; END");
        dueCode("ZERO beyond", "ZERO 2 39; PRINT 1", "GET 2; ZERO 4; GET 1; PRINT; END");
        dueCode("the last is END", "JUMP 2; END", "JUMP 2; END; END");
        StackCoder x = Text.coder(3, "JUMP 2; PRINT 1; PRINT 2");
        Check.due("before the cut: length()", x.length(), 6);
        x.cut(2);
        Check.due("to what was cut off", Text.stackCode(x), "JUMP 3; GET 1; PRINT; END");
        Text.set(x, 1, "ADD 1 2 3");
        Check.due("and END moved", Text.stackCode(x), "JUMP 5; GET 2; GET 3; ADD; DROP; END");
    }

    /** Terms: "PUT of d, if the register is read behind it [...] before it is written again". */
    private static void putIfReadBehind() {
        dueCode("read twice", "CONST 1 5; STORE 1 1", "PUSH 5; PUT 1; GET 1; GET 1; STORE; END");
        dueCode("read by the one that writes it again", "CONST 1 5; ADD 1 1 1; PRINT 1",
            "PUSH 5; PUT 1; GET 1; GET 1; ADD; PRINT; END");
        dueCode("read by one that waits", "CONST 1 5; STORE 1 1; COPY 2 1; PRINT 3; PRINT 2",
            "PUSH 5; PUT 1; GET 1; GET 1; STORE; GET 3; PRINT; GET 1; PRINT; END");
        dueCode("read behind another writer only", "CONST 1 5; CONST 1 6; STORE 1 1",
            "PUSH 5; DROP; PUSH 6; PUT 1; GET 1; GET 1; STORE; END");
    }

    /** Terms: "or is live at the block's end and not written again in it". */
    private static void putIfLiveAtTheEnd() {
        dueCode("live", "CONST 1 5; JUMP 3; END; PRINT 1", "PUSH 5; PUT 1; JUMP 4; END; GET 1; PRINT; END");
        dueCode("live by one way of ZERO", "CONST 1 5; ZERO 2 3; END; PRINT 1",
            "PUSH 5; PUT 1; GET 2; ZERO 5; END; GET 1; PRINT; END");
        dueCode("written again", "CONST 1 5; CONST 1 6; JUMP 4; END; PRINT 1",
            "PUSH 5; DROP; PUSH 6; PUT 1; JUMP 6; END; GET 1; PRINT; END");
        dueCode("live round a loop", "CONST 1 5; JUMP 3; END; COPY 2 1; JUMP 3",
            "PUSH 5; PUT 1; JUMP 4; END; GET 1; DROP; JUMP 4; END");
    }

    /** Terms: "else DROP." */
    private static void elseDrop() {
        dueCode("never read", "CONST 1 5", "PUSH 5; DROP; END");
        dueCode("read only by itself", "ADD 1 1 2", "GET 1; GET 2; ADD; DROP; END");
        dueCode("read only before", "PRINT 1; CONST 1 5", "GET 1; PRINT; PUSH 5; DROP; END");
        dueCode("read only behind END", "CONST 1 5; END; PRINT 1", "PUSH 5; DROP; END; GET 1; PRINT; END");
        dueCode("a LOAD", "LOAD 1 2", "GET 2; LOAD; DROP; END");
    }

    /** Terms: "(Behind all that stands an END.)", also where the last is END or JUMP. */
    private static void endBehindAll() {
        dueCode("behind END", "END", "END; END");
        dueCode("behind JUMP", "JUMP 0", "JUMP 0; END");
        dueCode("behind PRINT", "PRINT 1", "GET 1; PRINT; END");
    }

    /** Promise 11: "How many PUTs the stack code has.": none, and neither DROP nor GET count. */
    private static void storesOfNone() {
        Check.due("no code: stores()", new StackCoder(3).stores(), 0);
        Check.due("DROP: stores()", Text.coder(3, "CONST 1 5").stores(), 0);
        Check.due("carried: stores()", Text.coder(3, "CONST 1 5; PRINT 1").stores(), 0);
        Check.due("GET: stores()", Text.coder(3, "PRINT 1").stores(), 0);
        Check.due("STORE: stores()", Text.coder(3, "STORE 1 2").stores(), 0);
        Check.due("PUT: stores()", Text.coder(3, "CONST 1 5; STORE 1 1").stores(), 1);
    }

    /** Promise 11: "How many PUTs the stack code has.": the most is 39, since one must read. */
    private static void mostStores() {
        StackCoder x = Text.coder(3, Text.times(39, "ADD 1 1 1") + "; JUMP 0");
        Check.due("39: stores()", x.stores(), 39);
        x.cut(39);
        Check.due("38 and a DROP: stores()", x.stores(), 38);
        x.cut(0);
        Check.due("none again: stores()", x.stores(), 0);
    }

    /** Promises 6 and 7 of the longest code that 40 instructions have: 4 operations each, and END. */
    private static void longestCode() {
        StackCoder x = Text.coder(1, Text.times(40, "SUB 1 1 1"));
        Check.due("longest: length()", x.length(), 161);
        Check.due("longest: code(158)", x.code(158), 60000);
        Check.due("longest: code(159)", x.code(159), 30000);
        Check.due("longest: code(160)", x.code(160), 140000);
        Check.due("longest: code(161)", x.code(161), -1);
    }
}
