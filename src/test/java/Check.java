/** Counts and prints the answers that are not the ones that are due. */
final class Check {
    private static int wrong = 0;

    private Check() {
    }

    static void due(String what, long got, long want) {
        if (got != want) {
            wrong++;
            System.out.println(what + ": answered " + got + ", due is " + want);
        }
    }

    static void due(String what, boolean got, boolean want) {
        due(what, got ? 1 : 0, want ? 1 : 0);
    }

    static void due(String what, String got, String want) {
        if (!got.equals(want)) {
            wrong++;
            System.out.println(what + ": answered " + got + ", due is " + want);
        }
    }

    /** The whole stack code of x is this row of coded operations. */
    static void dueCode(String what, StackCoder x, int... want) {
        due(what + ", length()", x.length(), want.length);
        for (int p = 0; p < want.length; p++) {
            due(what + ", code(" + p + ")", x.code(p), want[p]);
        }
        due(what + ", code behind the end", x.code(want.length), -1);
    }

    /** A new object with these instructions, four numbers each. */
    static StackCoder made(int depth, int... numbers) {
        StackCoder x = new StackCoder(depth);
        for (int k = 0; k + 3 < numbers.length; k += 4) {
            int number = x.add(numbers[k], numbers[k + 1], numbers[k + 2], numbers[k + 3]);
            due("made: add", number, k / 4);
        }
        return x;
    }

    static void end() {
        System.out.println(wrong == 0 ? "all answers are as due" : wrong + " answers are not as due");
        if (wrong != 0) {
            System.exit(1);
        }
    }
}
