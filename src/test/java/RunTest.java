/** Promises 13 to 16: run, out, steps, cell. */
public final class RunTest {
    public static void main(String[] args) {
        beforeAnyRun();
        anotherWhich();
        eachOperation();
        wrapAround();
        memoryOfAnyNumber();
        newRunsBeginAnew();
        howRunsEnd();
        limits();
        keptNumbers();
        deepStack();
        wrongPlaces();
        Check.end();
    }

    private static void beforeAnyRun() {
        StackCoder x = Check.made(3, 0, 1, 5, 0, 8, 0, 1, 0, 7, 0, 1, 1);
        Check.due("no run: steps()", x.steps(), 0);
        Check.due("no run: out(0)", x.out(0), 0);
        Check.due("no run: cell(5)", x.cell(5), 0);
    }

    private static void anotherWhich() {
        StackCoder x = Check.made(3, 0, 1, 5, 0, 8, 0, 1, 0, 7, 0, 1, 1);
        int[] wrong = {-1, 2, Integer.MIN_VALUE, Integer.MAX_VALUE};
        Check.due("run(0)", x.run(0), 1);
        for (int which : wrong) {
            Check.due("run(" + which + ")", x.run(which), -1);
            Check.due("refused run: steps()", x.steps(), 3);
            Check.due("refused run: out(0)", x.out(0), 5);
            Check.due("refused run: cell(5)", x.cell(5), 5);
        }
    }

    /** Both runs of this code put out these numbers. */
    private static void duePrinted(String what, StackCoder x, int... want) {
        for (int which = 0; which <= 1; which++) {
            Check.due(what + ": run(" + which + ")", x.run(which), want.length);
            for (int i = 0; i < want.length; i++) {
                Check.due(what + ", run " + which + ": out(" + i + ")", x.out(i), want[i]);
            }
            Check.due(what + ", run " + which + ": out behind them", x.out(want.length), 0);
        }
    }

    private static void eachOperation() {
        int[] of7And3 = {0, 0, 10, 4, 21, 0};
        int[] of3And7 = {0, 0, 10, -4, 21, 1};
        for (int operation = 2; operation <= 5; operation++) {
            duePrinted("7 and 3", Check.made(3, 0, 1, 7, 0, 0, 2, 3, 0, operation, 3, 1, 2, 8, 0, 3, 0),
                of7And3[operation]);
            duePrinted("3 and 7", Check.made(3, 0, 1, 3, 0, 0, 2, 7, 0, operation, 3, 1, 2, 8, 0, 3, 0),
                of3And7[operation]);
        }
        duePrinted("LESS of like ones", Check.made(3, 5, 3, 1, 1, 8, 0, 3, 0), 0);
        duePrinted("COPY", Check.made(3, 0, 1, -999, 0, 1, 2, 1, 0, 8, 0, 2, 0), -999);
        duePrinted("a register not written", Check.made(3, 8, 0, 9, 0), 0);
        duePrinted("STORE, LOAD", Check.made(3, 0, 1, 4, 0, 0, 2, 8, 0, 7, 0, 1, 2, 6, 3, 1, 0,
            8, 0, 3, 0, 6, 4, 2, 0, 8, 0, 4, 0), 8, 0);
        duePrinted("STORE with SWAP", Check.made(3, 0, 1, 4, 0, 0, 2, 8, 0, 0, 3, 1, 0, 2, 4, 2, 3,
            7, 0, 1, 4, 0, 1, 4, 0, 6, 5, 1, 0, 8, 0, 5, 0), 9);
        duePrinted("LESS with SWAP", Check.made(3, 0, 1, 4, 0, 0, 2, 8, 0, 0, 3, 1, 0, 2, 4, 2, 3,
            5, 5, 1, 4, 8, 0, 5, 0), 1);
        duePrinted("JUMP", Check.made(3, 9, 0, 2, 0, 8, 0, 1, 0, 0, 1, 5, 0, 8, 0, 1, 0), 5);
        duePrinted("ZERO of 0", Check.made(3, 0, 1, 5, 0, 10, 0, 0, 3, 8, 0, 1, 0, 8, 0, 1, 0), 5);
        duePrinted("ZERO of less than 0",
            Check.made(3, 0, 1, -5, 0, 10, 0, 1, 3, 8, 0, 1, 0, 8, 0, 1, 0), -5, -5);
        duePrinted("ZERO of another", Check.made(3, 0, 1, 5, 0, 10, 0, 1, 3, 8, 0, 1, 0, 8, 0, 1, 0), 5, 5);
    }

    /** 2^31 by squaring, less 1, and more 1. */
    private static void wrapAround() {
        int[] code = {0, 1, 2, 0, 4, 2, 1, 1, 4, 3, 2, 2, 4, 4, 3, 3, 4, 5, 4, 4, 0, 6, 128, 0,
            0, 7, 256, 0, 4, 8, 6, 7, 4, 8, 8, 5, 8, 0, 8, 0, 0, 9, 1, 0, 3, 8, 8, 9, 8, 0, 8, 0,
            2, 8, 8, 9, 8, 0, 8, 0, 4, 5, 5, 5, 8, 0, 5, 0};
        duePrinted("wrap", Check.made(3, code), Integer.MIN_VALUE, Integer.MAX_VALUE, Integer.MIN_VALUE, 0);
    }

    private static void memoryOfAnyNumber() {
        int[] numbers = {0, 1, 15, 16, 17, 999, -1, -15, -16, -17, -999};
        for (int number : numbers) {
            int want = ((number % 16) + 16) % 16;
            StackCoder x = Check.made(3, 0, 1, number, 0, 0, 2, 77, 0, 7, 0, 1, 2,
                0, 3, want, 0, 6, 4, 3, 0, 8, 0, 4, 0, 6, 5, 1, 0, 8, 0, 5, 0);
            duePrinted("cell of " + number, x, 77, 77);
            for (int which = 0; which <= 1; which++) {
                x.run(which);
                for (int i = 0; i < 16; i++) {
                    Check.due("cell " + i + " of " + number, x.cell(i), i == want ? 77 : 0);
                }
            }
        }
    }

    private static void newRunsBeginAnew() {
        StackCoder x = Check.made(3, 8, 0, 1, 0, 0, 1, 5, 0, 6, 2, 3, 0, 8, 0, 2, 0, 7, 0, 3, 1,
            10, 0, 4, 7, 8, 0, 1, 0, 8, 0, 1, 0);
        duePrinted("first", x, 0, 0, 5);
        duePrinted("second", x, 0, 0, 5);
        Check.due("cell(0)", x.cell(0), 5);
        x.cut(0);
        Check.due("cut: out(2) of the last run", x.out(2), 5);
        Check.due("cut: cell(0) of the last run", x.cell(0), 5);
        Check.due("empty: run(0)", x.run(0), 0);
        Check.due("empty: steps()", x.steps(), 0);
        Check.due("empty: out(2)", x.out(2), 0);
        Check.due("empty: cell(0)", x.cell(0), 0);
        Check.due("empty: run(1)", x.run(1), 0);
        Check.due("empty: steps() of the stack code", x.steps(), 1);
    }

    private static void dueSteps(String what, StackCoder x, int instructions, int operations) {
        x.run(0);
        Check.due(what + ": steps() of run(0)", x.steps(), instructions);
        x.run(1);
        Check.due(what + ": steps() of run(1)", x.steps(), operations);
    }

    private static void howRunsEnd() {
        dueSteps("END", Check.made(3, 11, 0, 0, 0, 8, 0, 1, 0), 1, 1);
        dueSteps("behind the last", Check.made(3, 8, 0, 1, 0), 1, 3);
        dueSteps("JUMP behind the last", Check.made(3, 9, 0, 2, 0, 8, 0, 1, 0), 1, 2);
        dueSteps("JUMP beyond", Check.made(3, 9, 0, 39, 0, 8, 0, 1, 0), 1, 2);
        dueSteps("ZERO beyond", Check.made(3, 10, 0, 1, 39, 8, 0, 1, 0), 1, 3);
        dueSteps("ZERO not taken", Check.made(3, 0, 1, 1, 0, 10, 0, 1, 39, 8, 0, 2, 0), 3, 5);
    }

    private static void limits() {
        dueSteps("for ever", Check.made(3, 9, 0, 0, 0), 300, 2000);
        dueSteps("for ever, two", Check.made(3, 8, 0, 1, 0, 9, 0, 0, 0), 300, 2000);
        int[] count = {0, 0, 99, 0, 0, 1, 1, 0, 3, 0, 0, 1, 10, 0, 0, 5, 9, 0, 2, 0, 8, 0, 0, 0};
        StackCoder x = Check.made(3, count);
        Check.due("99 rounds: run(0)", x.run(0), 1);
        Check.due("99 rounds: steps()", x.steps(), 2 + 98 * 3 + 2 + 1);
        x.set(0, 0, 0, 100, 0);
        Check.due("100 rounds: run(0)", x.run(0), 0);
        Check.due("100 rounds: steps()", x.steps(), 300);
        Check.due("100 rounds: run(1)", x.run(1), 1);
        Check.due("100 rounds: steps() of the stack code", x.steps(), 4 + 99 * 7 + 6 + 3);
    }

    private static void keptNumbers() {
        StackCoder x = Check.made(3, 0, 1, 1, 0, 2, 2, 2, 1, 8, 0, 2, 0, 9, 0, 1, 0);
        Check.due("many: run(0)", x.run(0), 100);
        for (int i = 0; i < 40; i++) {
            Check.due("many: out(" + i + ")", x.out(i), i + 1);
        }
        Check.due("many: out(40)", x.out(40), 0);
        Check.due("many: out(99)", x.out(99), 0);
        Check.due("many: run(1)", x.run(1), 285);
        Check.due("many: out(39) of run(1)", x.out(39), 40);
        Check.due("many: out(40) of run(1)", x.out(40), 0);
        x.cut(3);
        Check.due("few: run(0)", x.run(0), 1);
        Check.due("few: out(0)", x.out(0), 1);
        Check.due("few: out(1)", x.out(1), 0);
    }

    /** Sums of sums, with no constants: 31 of them need 6, the most that 40 instructions can. */
    private static void deepStack() {
        StackCoder x = new StackCoder(8);
        x.add(0, 8, 5, 0);
        x.add(0, 9, 2, 0);
        addSums(x, 4, 0);
        x.add(8, 0, 0, 0);
        Check.due("deep: size()", x.size(), 34);
        Check.due("deep: depth()", x.depth(), 6);
        Check.due("deep: stores()", x.stores(), 2);
        Check.due("deep: length()", x.length(), 4 + 16 * 3 + 15 + 2);
        duePrinted("deep", x, 16 * 7);
        x.set(32, 3, 0, 1, 0);
        x.set(31, 4, 1, 1, 2);
        duePrinted("deep, of unlike halves", x, 28 * 28 - 8 * 7);
    }

    private static void addSums(StackCoder x, int height, int register) {
        if (height == 0) {
            x.add(2, register, 8, 9);
            return;
        }
        addSums(x, height - 1, register);
        addSums(x, height - 1, register + 1);
        x.add(2, register, register, register + 1);
    }

    private static void wrongPlaces() {
        StackCoder x = Check.made(3, 0, 1, 15, 0, 7, 0, 1, 1, 7, 0, 2, 1, 8, 0, 1, 0);
        x.run(1);
        Check.due("cell(0)", x.cell(0), 15);
        Check.due("cell(15)", x.cell(15), 15);
        Check.due("out(0)", x.out(0), 15);
        int[] wrong = {-1, 16, 31, 40, Integer.MIN_VALUE, Integer.MAX_VALUE};
        for (int i : wrong) {
            Check.due("cell(" + i + ")", x.cell(i), 0);
            Check.due("out(" + i + ")", x.out(i), 0);
        }
    }
}
