import java.util.ArrayList;
import java.util.Arrays;
import java.util.List;

/** What an object is due to answer to any call, worked out from Oracle alone. */
final class Model {
    private final int depth;
    private final List<int[]> code = new ArrayList<>();
    private Oracle oracle;
    private int printed;
    private int steps;
    private int[] cells = new int[16];
    private List<Integer> out = new ArrayList<>();

    Model(int depth) {
        this.depth = depth < 1 || depth > 8 ? 3 : depth;
    }

    /** The call by its place in the public face; a boolean counts 1 or 0. */
    int answer(int call, int[] n) {
        return switch (call) {
            case 0 -> add(n);
            case 1 -> set(n[0], Arrays.copyOfRange(n, 1, 5)) ? 1 : 0;
            case 2 -> cut(n[0]) ? 1 : 0;
            case 3 -> code.size();
            case 4 -> now().stack.size();
            case 5 -> n[0] >= 0 && n[0] < now().stack.size() ? now().stack.get(n[0]) : -1;
            case 6 -> has(n[0]) ? now().carried[n[0]] : -1;
            case 7 -> has(n[0]) ? now().need[n[0]] : -1;
            case 8 -> has(n[0]) ? now().live(n[0]) : -1;
            case 9 -> now().stores;
            case 10 -> Arrays.stream(now().need).max().orElse(0);
            case 11 -> run(n[0]);
            case 12 -> n[0] >= 0 && n[0] < out.size() ? out.get(n[0]) : 0;
            case 13 -> steps;
            default -> n[0] >= 0 && n[0] < 16 ? cells[n[0]] : 0;
        };
    }

    int size() {
        return code.size();
    }

    private Oracle now() {
        if (oracle == null) {
            oracle = new Oracle(depth, code.toArray(new int[0][]));
        }
        return oracle;
    }

    private boolean has(int i) {
        return i >= 0 && i < code.size();
    }

    private int add(int[] n) {
        if (code.size() == 40 || !isAsTold(n[0], n[1], n[2], n[3])) {
            return -1;
        }
        code.add(Arrays.copyOf(n, 4));
        oracle = null;
        return code.size() - 1;
    }

    private boolean set(int i, int[] n) {
        if (!has(i) || !isAsTold(n[0], n[1], n[2], n[3])) {
            return false;
        }
        code.set(i, n);
        oracle = null;
        return true;
    }

    private boolean cut(int n) {
        if (n < 0 || n > code.size()) {
            return false;
        }
        code.subList(n, code.size()).clear();
        oracle = null;
        return true;
    }

    private static boolean isAsTold(int operation, int d, int a, int b) {
        return switch (operation) {
            case 0 -> isRegister(d) && a >= -999 && a <= 999 && b == 0;
            case 1, 6 -> isRegister(d) && isRegister(a) && b == 0;
            case 2, 3, 4, 5 -> isRegister(d) && isRegister(a) && isRegister(b);
            case 7 -> d == 0 && isRegister(a) && isRegister(b);
            case 8 -> d == 0 && isRegister(a) && b == 0;
            case 9 -> d == 0 && isPlace(a) && b == 0;
            case 10 -> d == 0 && isRegister(a) && isPlace(b);
            case 11 -> d == 0 && a == 0 && b == 0;
            default -> false;
        };
    }

    private static boolean isRegister(int number) {
        return number >= 0 && number <= 9;
    }

    private static boolean isPlace(int number) {
        return number >= 0 && number <= 39;
    }

    private int run(int which) {
        if (which != 0 && which != 1) {
            return -1;
        }
        if (which == 0) {
            now().runInstructions();
        } else {
            now().runOperations();
        }
        printed = now().printed;
        steps = now().steps;
        cells = now().cells.clone();
        out = new ArrayList<>(now().out);
        return printed;
    }
}
