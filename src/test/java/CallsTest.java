import java.util.Arrays;
import java.util.Random;

/**
 * Any calls with any arguments in any order, 512 on an object, each against Model: so that
 * no call throws, a refused one changes nothing, and no answer hangs on what was asked before.
 */
public final class CallsTest {
    private static final int OBJECTS = 800;
    private static final int CALLS = 512;
    private static final String[] NAMES = {
        "add", "set", "cut", "size", "length", "code", "carried", "need", "live", "stores", "depth", "run",
        "out", "steps", "cell"};
    /** How often each is called, changes standing for a half. */
    private static final int[] WEIGHTS = {36, 24, 2, 4, 4, 12, 8, 8, 8, 4, 4, 10, 8, 4, 8};
    private static final int[] EDGES = {
        Integer.MIN_VALUE, -1000, -999, -40, -17, -16, -2, -1, 0, 1, 2, 7, 8, 9, 10, 11, 12, 14, 15, 16, 17,
        38, 39, 40, 41, 200, 201, 202, 255, 256, 257, 999, 1000, Integer.MAX_VALUE};

    private static int refused;
    private static int full;

    public static void main(String[] args) {
        Random random = new Random(20261116L);
        for (int object = 0; object < OBJECTS; object++) {
            int depth = random.nextInt(4) == 0 ? edge(random) : 1 + random.nextInt(8);
            callOn("object " + object + " of depth " + depth, depth, random);
        }
        Check.due("many are refused", refused > 10 * OBJECTS, true);
        Check.due("many codes come to 40", full > OBJECTS / 3, true);
        Check.end();
    }

    private static void callOn(String what, int depth, Random random) {
        StackCoder x = new StackCoder(depth);
        Model model = new Model(depth);
        CodeMaker maker = new CodeMaker(random, 40);
        boolean wasFull = false;
        for (int k = 0; k < CALLS; k++) {
            int call = anyCall(random);
            int[] n = arguments(call, random, maker, model.size());
            int want = model.answer(call, n);
            refused += call == 0 && want < 0 || call == 1 && want == 0 ? 1 : 0;
            String name = what + ", call " + k + ": " + NAMES[call] + " of " + Arrays.toString(n);
            Check.due(name, answer(x, call, n), want);
            wasFull = wasFull || model.size() == 40;
        }
        full += wasFull ? 1 : 0;
    }

    private static int answer(StackCoder x, int call, int[] n) {
        return switch (call) {
            case 0 -> x.add(n[0], n[1], n[2], n[3]);
            case 1 -> x.set(n[0], n[1], n[2], n[3], n[4]) ? 1 : 0;
            case 2 -> x.cut(n[0]) ? 1 : 0;
            case 3 -> x.size();
            case 4 -> x.length();
            case 5 -> x.code(n[0]);
            case 6 -> x.carried(n[0]);
            case 7 -> x.need(n[0]);
            case 8 -> x.live(n[0]);
            case 9 -> x.stores();
            case 10 -> x.depth();
            case 11 -> x.run(n[0]);
            case 12 -> x.out(n[0]);
            case 13 -> x.steps();
            default -> x.cell(n[0]);
        };
    }

    /** As many numbers as add and set take; the other calls use the first alone. */
    private static int[] arguments(int call, Random random, CodeMaker maker, int size) {
        int[] n = new int[5];
        int[] one = instruction(random, maker);
        if (call == 0) {
            System.arraycopy(one, 0, n, 0, 4);
            return n;
        }
        System.arraycopy(one, 0, n, 1, 4);
        n[0] = random.nextInt(8) == 0 ? edge(random) : near(call, random, size);
        return n;
    }

    /** A number that mostly names something that is there; cuts mostly leave much. */
    private static int near(int call, Random random, int size) {
        return switch (call) {
            case 2 -> size - random.nextInt(4);
            case 5 -> random.nextInt(5 * size + 2);
            case 11 -> random.nextInt(2);
            default -> random.nextInt(size + 1);
        };
    }

    /** One of five has a number changed, so that most of those are not as told. */
    private static int[] instruction(Random random, CodeMaker maker) {
        int[] one = maker.next();
        if (random.nextInt(5) == 0) {
            one[random.nextInt(4)] = edge(random);
        }
        return one;
    }

    private static int edge(Random random) {
        return EDGES[random.nextInt(EDGES.length)];
    }

    private static int anyCall(Random random) {
        int left = random.nextInt(Arrays.stream(WEIGHTS).sum());
        int call = 0;
        while (left >= WEIGHTS[call]) {
            left -= WEIGHTS[call];
            call++;
        }
        return call;
    }
}
