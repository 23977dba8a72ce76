import java.util.Random;

/** All promises on many codes, against a plain second reading of the document (Oracle). */
public final class OracleTest {
    private static final int ROUNDS = 6000;

    public static void main(String[] args) {
        Random random = new Random(20261115L);
        int carried = 0;
        int swaps = 0;
        int ended = 0;
        int deepest = 0;
        for (int round = 0; round < ROUNDS; round++) {
            int depth = random.nextInt(10);
            int[][] code = new int[random.nextInt(41)][];
            StackCoder x = new StackCoder(depth);
            build(random, x, code, new CodeMaker(random, code.length));
            Oracle oracle = new Oracle(depth >= 1 && depth <= 8 ? depth : 3, code);
            compareCode("round " + round, x, oracle);
            compareRuns("round " + round, x, oracle);
            ended += sameResult("round " + round, oracle) ? 1 : 0;
            for (int goal : oracle.carried) {
                carried += goal >= 0 ? 1 : 0;
            }
            deepest = Math.max(deepest, x.depth());
            swaps += oracle.stack.contains(40000) ? 1 : 0;
        }
        editedCodes(random);
        Check.due("many are carried", carried > 5 * ROUNDS, true);
        Check.due("some go deep", deepest >= 4, true);
        Check.due("many have SWAP", swaps > ROUNDS / 5, true);
        Check.due("many come to an end", ended > ROUNDS / 2, true);
        Check.end();
    }

    /** Half of the codes are made by add alone, the others by add, set, cut and queries mixed. */
    private static void build(Random random, StackCoder x, int[][] code, CodeMaker maker) {
        boolean mixed = random.nextBoolean();
        for (int i = 0; i < code.length; i++) {
            code[i] = maker.next();
            if (mixed && random.nextInt(8) == 0) {
                int[] first = maker.any();
                Check.due("add", x.add(first[0], first[1], first[2], first[3]), i);
                x.length();
                if (random.nextBoolean()) {
                    Check.due("cut", x.cut(i), true);
                    x.depth();
                }
            }
            if (x.size() > i) {
                Check.due("set", x.set(i, code[i][0], code[i][1], code[i][2], code[i][3]), true);
            } else {
                Check.due("add", x.add(code[i][0], code[i][1], code[i][2], code[i][3]), i);
            }
        }
    }

    /** Short codes, asked for and run, then changed and asked for and run again, in 512 calls. */
    private static void editedCodes(Random random) {
        for (int round = 0; round < ROUNDS; round++) {
            int depth = 1 + random.nextInt(8);
            StackCoder x = new StackCoder(depth);
            int[][] code = new int[1 + random.nextInt(10)][];
            build(random, x, code, new CodeMaker(random, code.length));
            compareCode("first, round " + round, x, new Oracle(depth, code));
            compareRuns("first, round " + round, x, new Oracle(depth, code));
            code = edit(random, x, code);
            compareCode("then, round " + round, x, new Oracle(depth, code));
            compareRuns("then, round " + round, x, new Oracle(depth, code));
        }
    }

    /** Cuts off some, changes one, adds some; tries what is refused as well. */
    private static int[][] edit(Random random, StackCoder x, int[][] code) {
        int left = random.nextInt(code.length + 1);
        int[][] edited = java.util.Arrays.copyOf(code, left + random.nextInt(3));
        CodeMaker maker = new CodeMaker(random, edited.length);
        Check.due("cut", x.cut(left), true);
        Check.due("refused cut", x.cut(left + 1), false);
        if (left > 0) {
            int i = random.nextInt(left);
            edited[i] = maker.any();
            Check.due("set", x.set(i, edited[i][0], edited[i][1], edited[i][2], edited[i][3]), true);
        }
        Check.due("refused set", x.set(left, 11, 0, 0, 0), false);
        for (int i = left; i < edited.length; i++) {
            edited[i] = maker.any();
            Check.due("add", x.add(edited[i][0], edited[i][1], edited[i][2], edited[i][3]), i);
        }
        Check.due("refused add", x.add(12, 0, 0, 0), -1);
        return edited;
    }

    private static void compareCode(String what, StackCoder x, Oracle oracle) {
        int greatest = 0;
        Check.due(what + ": size()", x.size(), oracle.code.length);
        for (int i = 0; i < oracle.code.length; i++) {
            Check.due(what + ": live(" + i + ")", x.live(i), oracle.live(i));
            Check.due(what + ": carried(" + i + ")", x.carried(i), oracle.carried[i]);
            Check.due(what + ": need(" + i + ")", x.need(i), oracle.need[i]);
            greatest = Math.max(greatest, oracle.need[i]);
        }
        Check.due(what + ": depth()", x.depth(), greatest);
        Check.due(what + ": stores()", x.stores(), oracle.stores);
        Check.due(what + ": length()", x.length(), oracle.stack.size());
        for (int p = 0; p < oracle.stack.size(); p++) {
            Check.due(what + ": code(" + p + ")", x.code(p), oracle.stack.get(p));
        }
    }

    private static void compareRuns(String what, StackCoder x, Oracle oracle) {
        for (int which = 0; which <= 1; which++) {
            if (which == 0) {
                oracle.runInstructions();
            } else {
                oracle.runOperations();
            }
            String run = what + ", run " + which;
            Check.due(run, x.run(which), oracle.printed);
            Check.due(run + ": steps()", x.steps(), oracle.steps);
            for (int i = 0; i <= oracle.out.size(); i++) {
                int want = i < oracle.out.size() ? oracle.out.get(i) : 0;
                Check.due(run + ": out(" + i + ")", x.out(i), want);
            }
            for (int i = 0; i < 16; i++) {
                Check.due(run + ": cell(" + i + ")", x.cell(i), oracle.cells[i]);
            }
        }
    }

    /** Where both runs come to their own end, they must have done the same. */
    private static boolean sameResult(String what, Oracle oracle) {
        oracle.runInstructions();
        String first = oracle.printed + " " + oracle.out + java.util.Arrays.toString(oracle.cells);
        boolean ends = oracle.steps < 300;
        oracle.runOperations();
        String second = oracle.printed + " " + oracle.out + java.util.Arrays.toString(oracle.cells);
        boolean bothEnd = ends && oracle.steps < 2000;
        Check.due(what + ": both codes do the same", !bothEnd || first.equals(second), true);
        return bothEnd;
    }
}
