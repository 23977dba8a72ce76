import java.util.ArrayList;
import java.util.List;
import java.util.Random;

/** Makes instructions: some quite at random, some as of an expression that is worked out. */
final class CodeMaker {
    /** Weights of the operations 0 .. 11: straight code, some jumps, many jumps. */
    private static final int[][] WEIGHTS = {
        {6, 3, 4, 4, 3, 3, 4, 2, 4, 0, 0, 0},
        {5, 3, 4, 4, 2, 3, 3, 2, 4, 1, 2, 0},
        {4, 2, 3, 3, 2, 2, 3, 2, 3, 2, 3, 1}};

    private final Random random;
    private final int size;
    private final int registers;
    private final int[] weights;
    /** Of 100 instructions so many are quite at random. */
    private final int noise;
    /** How many values are gathered before they are joined. */
    private final int gathered;
    private final List<Integer> waiting = new ArrayList<>();

    CodeMaker(Random random, int size) {
        this.random = random;
        this.size = size;
        registers = 2 + random.nextInt(9);
        weights = WEIGHTS[random.nextInt(WEIGHTS.length)];
        noise = random.nextInt(3) == 0 ? 100 : random.nextInt(30);
        gathered = 2 + random.nextInt(8);
    }

    int[] next() {
        if (random.nextInt(100) < noise) {
            return any();
        }
        int height = waiting.size();
        if (height >= 2 && random.nextInt(gathered) < height) {
            int b = waiting.remove(height - 1);
            int a = waiting.remove(height - 2);
            int operation = 2 + random.nextInt(4);
            boolean turned = random.nextBoolean();
            return new int[] {operation, gather(a), turned ? b : a, turned ? a : b};
        }
        if (height >= 1 && random.nextInt(10) == 0) {
            int a = waiting.remove(height - 1);
            return switch (random.nextInt(3)) {
                case 0 -> new int[] {8, 0, a, 0};
                case 1 -> new int[] {7, 0, random.nextInt(registers), a};
                default -> new int[] {6, gather(a), a, 0};
            };
        }
        int d = gather(height % registers);
        return random.nextInt(4) == 0
            ? new int[] {6, d, random.nextInt(registers), 0}
            : new int[] {0, d, random.nextInt(1999) - 999, 0};
    }

    private int gather(int register) {
        waiting.add(register);
        return register;
    }

    int[] any() {
        int operation = anyOperation();
        int place = Math.min(39, random.nextInt(size + 2));
        int d = operation <= 6 ? random.nextInt(registers) : 0;
        int a = random.nextInt(registers);
        int b = random.nextInt(registers);
        return switch (operation) {
            case 0 -> new int[] {0, d, random.nextBoolean() ? random.nextInt(1999) - 999 : random.nextInt(3), 0};
            case 1, 6, 8 -> new int[] {operation, d, a, 0};
            case 9 -> new int[] {9, 0, place, 0};
            case 10 -> new int[] {10, 0, a, place};
            case 11 -> new int[] {11, 0, 0, 0};
            default -> new int[] {operation, d, a, b};
        };
    }

    private int anyOperation() {
        int sum = 0;
        for (int weight : weights) {
            sum += weight;
        }
        int left = random.nextInt(sum);
        int operation = 0;
        while (left >= weights[operation]) {
            left -= weights[operation];
            operation++;
        }
        return operation;
    }
}
