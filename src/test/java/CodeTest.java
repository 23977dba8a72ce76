/** Promises 6, 7 and 11: length, code, stores. */
public final class CodeTest {
    private static final int SWAP = 40000;
    private static final int ADD = 50000;
    private static final int SUB = 60000;
    private static final int MUL = 70000;
    private static final int LESS = 80000;
    private static final int LOAD = 90000;
    private static final int STORE = 100000;
    private static final int PRINT = 110000;
    private static final int JUMP = 120000;
    private static final int ZERO = 130000;
    private static final int END = 140000;
    private static final int DROP = 30000;

    public static void main(String[] args) {
        eachOperation();
        placesWithoutCode();
        orderOfTwoThings();
        putOrDrop();
        jumpsToCarried();
        jumpsBeyond();
        longestCode();
        Check.end();
    }

    private static int push(int n) {
        return 1000 + n;
    }

    private static int get(int register) {
        return 10000 + register;
    }

    private static int put(int register) {
        return 20000 + register;
    }

    private static void eachOperation() {
        Check.dueCode("CONST", Check.made(3, 0, 9, 999, 0), push(999), DROP, END);
        Check.dueCode("CONST below 0", Check.made(3, 0, 9, -999, 0), 1, DROP, END);
        Check.dueCode("COPY", Check.made(3, 1, 0, 9, 0), get(9), DROP, END);
        Check.dueCode("ADD", Check.made(3, 2, 0, 1, 2), get(1), get(2), ADD, DROP, END);
        Check.dueCode("SUB", Check.made(3, 3, 0, 1, 2), get(1), get(2), SUB, DROP, END);
        Check.dueCode("MUL", Check.made(3, 4, 0, 1, 1), get(1), get(1), MUL, DROP, END);
        Check.dueCode("LESS", Check.made(3, 5, 0, 1, 2), get(1), get(2), LESS, DROP, END);
        Check.dueCode("LOAD", Check.made(3, 6, 0, 1, 0), get(1), LOAD, DROP, END);
        Check.dueCode("STORE", Check.made(3, 7, 0, 1, 2), get(1), get(2), STORE, END);
        Check.dueCode("PRINT", Check.made(3, 8, 0, 1, 0), get(1), PRINT, END);
        Check.dueCode("JUMP", Check.made(3, 9, 0, 0, 0), JUMP, END);
        Check.dueCode("ZERO", Check.made(3, 10, 0, 1, 0), get(1), ZERO, END);
        Check.dueCode("END", Check.made(3, 11, 0, 0, 0), END, END);
    }

    private static void placesWithoutCode() {
        StackCoder x = Check.made(3, 8, 0, 1, 0);
        Check.due("code(-1)", x.code(-1), -1);
        Check.due("code(3)", x.code(3), -1);
        Check.due("code(least)", x.code(Integer.MIN_VALUE), -1);
        Check.due("code(most)", x.code(Integer.MAX_VALUE), -1);
    }

    /** r3 = r1 + r2 needs 2, so it comes before a plain register. */
    private static void orderOfTwoThings() {
        int[] needsSwap = {0, 0, 0, 1, 0, 1};
        int[] operations = {0, 0, ADD, SUB, MUL, LESS};
        for (int operation = 2; operation <= 5; operation++) {
            int own = operations[operation];
            StackCoder a = Check.made(3, 2, 3, 1, 2, operation, 4, 3, 5, 8, 0, 4, 0);
            Check.dueCode("a needs more", a, get(1), get(2), ADD, get(5), own, PRINT, END);
            StackCoder b = Check.made(3, 2, 3, 1, 2, operation, 4, 5, 3, 8, 0, 4, 0);
            if (needsSwap[operation] == 1) {
                Check.dueCode("b needs more", b, get(1), get(2), ADD, get(5), SWAP, own, PRINT, END);
            } else {
                Check.dueCode("b needs more", b, get(1), get(2), ADD, get(5), own, PRINT, END);
            }
            StackCoder even = Check.made(3, 0, 3, 6, 0, operation, 4, 5, 3, 8, 0, 4, 0);
            Check.dueCode("as much", even, get(5), push(6), own, PRINT, END);
        }
        StackCoder store = Check.made(3, 2, 3, 1, 2, 7, 0, 5, 3);
        Check.dueCode("STORE, b needs more", store, get(1), get(2), ADD, get(5), SWAP, STORE, END);
        StackCoder address = Check.made(3, 2, 3, 1, 2, 7, 0, 3, 5);
        Check.dueCode("STORE, a needs more", address, get(1), get(2), ADD, get(5), STORE, END);
        StackCoder late = Check.made(3, 0, 1, 7, 0, 0, 2, 8, 0, 3, 3, 2, 1, 8, 0, 3, 0);
        Check.dueCode("a was written behind b", late, push(8), push(7), SUB, PRINT, END);
    }

    private static void putOrDrop() {
        StackCoder read = Check.made(3, 0, 1, 5, 0, 8, 0, 1, 0, 8, 0, 1, 0);
        Check.dueCode("read twice", read, push(5), put(1), get(1), PRINT, get(1), PRINT, END);
        Check.due("read twice: stores()", read.stores(), 1);
        read.add(8, 0, 1, 0);
        Check.due("read three times: stores()", read.stores(), 1);
        read.cut(1);
        Check.due("not read: stores()", read.stores(), 0);
        StackCoder again = Check.made(3, 0, 1, 5, 0, 0, 1, 6, 0, 8, 0, 1, 0);
        Check.dueCode("written again", again, push(5), DROP, push(6), PRINT, END);
        Check.due("written again: stores()", again.stores(), 0);
        StackCoder own = Check.made(3, 0, 1, 5, 0, 2, 1, 1, 1, 8, 0, 1, 0);
        Check.dueCode("read by the next writer", own, push(5), put(1), get(1), get(1), ADD, PRINT, END);
        StackCoder on = Check.made(3, 0, 1, 5, 0, 10, 0, 2, 3, 11, 0, 0, 0, 8, 0, 1, 0);
        Check.dueCode("live by a jump", on,
            push(5), put(1), get(2), ZERO + 5, END, get(1), PRINT, END);
        Check.due("live by a jump: stores()", on.stores(), 1);
        StackCoder end = Check.made(3, 0, 1, 5, 0, 11, 0, 0, 0, 8, 0, 1, 0);
        Check.dueCode("not live behind END", end, push(5), DROP, END, get(1), PRINT, END);
        StackCoder later = Check.made(3, 0, 1, 5, 0, 0, 1, 6, 0, 10, 0, 1, 4, 8, 0, 1, 0, 8, 0, 1, 0);
        Check.dueCode("live at the end, but written again", later,
            push(5), DROP, push(6), put(1), get(1), ZERO + 8, get(1), PRINT, get(1), PRINT, END);
        StackCoder loop = Check.made(3, 8, 0, 1, 0, 0, 1, 5, 0, 0, 2, 5, 0, 9, 0, 0, 0);
        Check.dueCode("live round a loop", loop,
            get(1), PRINT, push(5), put(1), push(5), DROP, JUMP, END);
    }

    private static void jumpsToCarried() {
        StackCoder jump = Check.made(3, 9, 0, 2, 0, 8, 0, 3, 0, 0, 1, 5, 0, 2, 2, 1, 4, 8, 0, 2, 0);
        Check.dueCode("to a carried one", jump,
            JUMP + 3, get(3), PRINT, push(5), get(4), ADD, PRINT, END);
        StackCoder over = Check.made(3,
            10, 0, 0, 1, 0, 1, 5, 0, 8, 0, 3, 0, 8, 0, 1, 0, 9, 0, 1, 0);
        Check.dueCode("the first one not carried is no goal", over,
            get(0), ZERO + 2, get(3), PRINT, push(5), PRINT, JUMP + 2, END);
    }

    private static void jumpsBeyond() {
        StackCoder behind = Check.made(3, 9, 0, 2, 0, 8, 0, 1, 0);
        Check.dueCode("JUMP behind the last", behind, JUMP + 3, get(1), PRINT, END);
        StackCoder beyond = Check.made(3, 10, 0, 1, 39, 8, 0, 1, 0);
        Check.dueCode("ZERO beyond the last", beyond, get(1), ZERO + 4, get(1), PRINT, END);
        beyond.add(8, 0, 2, 0);
        Check.dueCode("with one more", beyond, get(1), ZERO + 6, get(1), PRINT, get(2), PRINT, END);
    }

    private static void longestCode() {
        StackCoder x = new StackCoder(1);
        for (int i = 0; i < 40; i++) {
            x.add(2, 1, 1, 1);
        }
        Check.due("longest: length()", x.length(), 161);
        Check.due("longest: stores()", x.stores(), 39);
        Check.due("longest: code(155)", x.code(155), put(1));
        Check.due("longest: code(159)", x.code(159), DROP);
        Check.due("longest: code(160)", x.code(160), END);
        Check.due("longest: code(161)", x.code(161), -1);
    }
}
