/** Promises 1 to 5: a new object, add, set, cut, size. */
public final class ChangeTest {
    private static final int REGISTER = 0;
    private static final int PLACE = 1;
    private static final int VALUE = 2;
    private static final int UNUSED = 3;
    private static final int[] LEAST = {0, 0, -999, 0};
    private static final int[] MOST = {9, 39, 999, 0};

    /** What d, a, b are, by operation. */
    private static final int[][] KINDS = {
        {REGISTER, VALUE, UNUSED}, {REGISTER, REGISTER, UNUSED}, {REGISTER, REGISTER, REGISTER},
        {REGISTER, REGISTER, REGISTER}, {REGISTER, REGISTER, REGISTER}, {REGISTER, REGISTER, REGISTER},
        {REGISTER, REGISTER, UNUSED}, {UNUSED, REGISTER, REGISTER}, {UNUSED, REGISTER, UNUSED},
        {UNUSED, PLACE, UNUSED}, {UNUSED, REGISTER, PLACE}, {UNUSED, UNUSED, UNUSED}};

    public static void main(String[] args) {
        newObject();
        depthOfNewObject();
        numbersOfAdd();
        numbersOfSet();
        fullCode();
        setOfOne();
        cuts();
        Check.end();
    }

    private static void newObject() {
        for (int depth = -1; depth <= 9; depth++) {
            StackCoder x = new StackCoder(depth);
            Check.due("new: size()", x.size(), 0);
            Check.dueCode("new", x, 140000);
            Check.due("new: depth()", x.depth(), 0);
            Check.due("new: stores()", x.stores(), 0);
            Check.due("new: steps()", x.steps(), 0);
            Check.due("new: out(0)", x.out(0), 0);
            Check.due("new: cell(0)", x.cell(0), 0);
            Check.due("new: carried(0)", x.carried(0), -1);
            Check.due("new: need(0)", x.need(0), -1);
            Check.due("new: live(0)", x.live(0), -1);
        }
    }

    /** A full tree over 16 constants would need 5: how much of it is carried tells D. */
    private static void depthOfNewObject() {
        int[] given = {1, 2, 3, 4, 8, 0, 9, -1, Integer.MIN_VALUE, Integer.MAX_VALUE};
        int[] meant = {2, 2, 3, 4, 5, 3, 3, 3, 3, 3};
        for (int k = 0; k < given.length; k++) {
            StackCoder x = new StackCoder(given[k]);
            addTree(x, 4, 0);
            Check.due("tree, depth " + given[k] + ": depth()", x.depth(), meant[k]);
        }
        StackCoder one = new StackCoder(1);
        addTree(one, 4, 0);
        Check.due("depth 1: carried(0)", one.carried(0), -1);
        StackCoder two = new StackCoder(2);
        addTree(two, 4, 0);
        Check.due("depth 2: carried(0)", two.carried(0), 2);
        Check.due("depth 2: carried(2)", two.carried(2), 6);
        Check.due("depth 2: carried(5)", two.carried(5), -1);
    }

    /** Adds code that puts the sum of 2^height constants into the register. */
    private static void addTree(StackCoder x, int height, int register) {
        if (height == 0) {
            x.add(0, register, 1, 0);
            return;
        }
        addTree(x, height - 1, register);
        addTree(x, height - 1, register + 1);
        x.add(2, register, register, register + 1);
    }

    private static void numbersOfAdd() {
        for (int operation = 0; operation < KINDS.length; operation++) {
            for (int which = 0; which < 3; which++) {
                int kind = KINDS[operation][which];
                tryAdd(operation, which, LEAST[kind], true);
                tryAdd(operation, which, MOST[kind], true);
                tryAdd(operation, which, LEAST[kind] - 1, false);
                tryAdd(operation, which, MOST[kind] + 1, false);
                tryAdd(operation, which, Integer.MIN_VALUE, false);
                tryAdd(operation, which, Integer.MAX_VALUE, false);
            }
        }
        int[] wrong = {-1, 12, Integer.MIN_VALUE, Integer.MAX_VALUE};
        for (int operation : wrong) {
            StackCoder x = new StackCoder(3);
            Check.due("add of operation " + operation, x.add(operation, 0, 0, 0), -1);
            Check.due("size behind it", x.size(), 0);
        }
    }

    private static void tryAdd(int operation, int which, int number, boolean right) {
        int[] n = new int[3];
        n[which] = number;
        String call = "(" + operation + ", " + n[0] + ", " + n[1] + ", " + n[2] + ")";
        StackCoder x = new StackCoder(3);
        Check.due("add" + call, x.add(operation, n[0], n[1], n[2]), right ? 0 : -1);
        Check.due("size behind add" + call, x.size(), right ? 1 : 0);
        StackCoder y = Check.made(3, 0, 0, 7, 0, 8, 0, 0, 0);
        Check.due("set" + call, y.set(0, operation, n[0], n[1], n[2]), right);
        Check.due("size behind set" + call, y.size(), 2);
        if (!right) {
            Check.dueCode("behind refused set" + call, y, 1007, 110000, 140000);
        }
    }

    private static void numbersOfSet() {
        int[] wrong = {-1, 12, Integer.MIN_VALUE, Integer.MAX_VALUE};
        for (int operation : wrong) {
            StackCoder x = Check.made(3, 0, 0, 7, 0, 8, 0, 0, 0);
            Check.due("set of operation " + operation, x.set(0, operation, 0, 0, 0), false);
            Check.dueCode("behind it", x, 1007, 110000, 140000);
        }
    }

    private static void fullCode() {
        StackCoder x = new StackCoder(3);
        for (int i = 0; i < 40; i++) {
            Check.due("add number " + i, x.add(8, 0, 1, 0), i);
            Check.due("size", x.size(), i + 1);
        }
        Check.due("add to full code", x.add(8, 0, 1, 0), -1);
        Check.due("size of full code", x.size(), 40);
        Check.due("length of full code", x.length(), 81);
        Check.due("set of the last", x.set(39, 11, 0, 0, 0), true);
        Check.due("length then", x.length(), 80);
        Check.due("set behind the last", x.set(40, 11, 0, 0, 0), false);
        Check.due("cut to all", x.cut(40), true);
        Check.due("cut to more", x.cut(41), false);
        Check.due("cut to one less", x.cut(39), true);
        Check.due("add again", x.add(8, 0, 1, 0), 39);
        Check.due("add to full code again", x.add(8, 0, 1, 0), -1);
    }

    private static void setOfOne() {
        StackCoder x = Check.made(3, 0, 1, 5, 0, 8, 0, 1, 0);
        Check.dueCode("before set", x, 1005, 110000, 140000);
        Check.due("set(-1)", x.set(-1, 11, 0, 0, 0), false);
        Check.due("set(2)", x.set(2, 11, 0, 0, 0), false);
        Check.due("set(least)", x.set(Integer.MIN_VALUE, 11, 0, 0, 0), false);
        Check.due("set(most)", x.set(Integer.MAX_VALUE, 11, 0, 0, 0), false);
        Check.dueCode("behind refused sets", x, 1005, 110000, 140000);
        Check.due("run(0)", x.run(0), 1);
        Check.due("set(0)", x.set(0, 0, 2, -999, 0), true);
        Check.due("what the run left stays: out(0)", x.out(0), 5);
        Check.due("what the run left stays: steps()", x.steps(), 2);
        Check.dueCode("behind set(0)", x, 1, 30000, 10001, 110000, 140000);
        Check.due("set(1)", x.set(1, 8, 0, 2, 0), true);
        Check.dueCode("behind set(1)", x, 1, 110000, 140000);
        Check.due("run(1)", x.run(1), 1);
        Check.due("out(0)", x.out(0), -999);
    }

    private static void cuts() {
        StackCoder x = Check.made(3, 0, 1, 5, 0, 8, 0, 1, 0, 8, 0, 2, 0);
        Check.due("cut(-1)", x.cut(-1), false);
        Check.due("cut(4)", x.cut(4), false);
        Check.due("cut(least)", x.cut(Integer.MIN_VALUE), false);
        Check.due("cut(most)", x.cut(Integer.MAX_VALUE), false);
        Check.due("size behind refused cuts", x.size(), 3);
        Check.due("cut(3)", x.cut(3), true);
        Check.due("size behind cut(3)", x.size(), 3);
        Check.dueCode("behind cut(3)", x, 1005, 110000, 10002, 110000, 140000);
        Check.due("cut(1)", x.cut(1), true);
        Check.due("size behind cut(1)", x.size(), 1);
        Check.dueCode("behind cut(1)", x, 1005, 30000, 140000);
        Check.due("set of what is cut off", x.set(1, 8, 0, 1, 0), false);
        Check.due("carried of what is cut off", x.carried(1), -1);
        Check.due("need of what is cut off", x.need(1), -1);
        Check.due("live of what is cut off", x.live(1), -1);
        Check.due("add behind cut(1)", x.add(8, 0, 1, 0), 1);
        Check.dueCode("behind add", x, 1005, 110000, 140000);
        Check.due("cut(0)", x.cut(0), true);
        Check.due("cut(0) of nothing", x.cut(0), true);
        Check.due("cut(1) of nothing", x.cut(1), false);
        Check.dueCode("behind cut(0)", x, 140000);
        Check.due("depth behind cut(0)", x.depth(), 0);
    }
}
