import java.util.ArrayList;
import java.util.List;
import java.util.TreeSet;

/** The document's terms, read a second time as plainly as can be, with no thought for speed. */
final class Oracle {
    final int[][] code;
    final int depth;
    final int[] carried;
    final int[] need;
    final List<Integer> stack = new ArrayList<>();
    int stores;

    int printed;
    int steps;
    int[] cells;
    final List<Integer> out = new ArrayList<>();

    Oracle(int depth, int[][] code) {
        this.depth = depth;
        this.code = code;
        carried = new int[code.length];
        need = new int[code.length];
        java.util.Arrays.fill(carried, -1);
        for (int j = 0; j < code.length; j++) {
            settle(j);
        }
        for (int j = 0; j < code.length; j++) {
            need[j] = needOf(j);
        }
        makeStackCode();
    }

    /** The registers that are read, in the order a, b, a register named twice standing twice. */
    List<Integer> reads(int i) {
        List<Integer> read = new ArrayList<>();
        int operation = code[i][0];
        if ((operation >= 1 && operation <= 8) || operation == 10) {
            read.add(code[i][2]);
        }
        if ((operation >= 2 && operation <= 5) || operation == 7) {
            read.add(code[i][3]);
        }
        return read;
    }

    boolean writes(int i, int register) {
        return code[i][0] <= 6 && code[i][1] == register;
    }

    List<Integer> next(int i) {
        List<Integer> next = new ArrayList<>();
        switch (code[i][0]) {
            case 9 -> next.add(code[i][2]);
            case 10 -> {
                next.add(i + 1);
                next.add(code[i][3]);
            }
            case 11 -> { }
            default -> next.add(i + 1);
        }
        next.removeIf(k -> k >= code.length);
        return next;
    }

    /** Looks for a way from here to one that reads. */
    boolean isLive(int register, int from) {
        TreeSet<Integer> seen = new TreeSet<>();
        List<Integer> open = new ArrayList<>(List.of(from));
        while (!open.isEmpty()) {
            int i = open.remove(open.size() - 1);
            if (!seen.add(i)) {
                continue;
            }
            if (reads(i).contains(register)) {
                return true;
            }
            if (!writes(i, register)) {
                open.addAll(next(i));
            }
        }
        return false;
    }

    int live(int i) {
        int sum = 0;
        for (int register = 0; register < 10; register++) {
            sum += isLive(register, i) ? 1 << register : 0;
        }
        return sum;
    }

    boolean beginsBlock(int i) {
        if (i == 0 || code[i - 1][0] >= 9) {
            return true;
        }
        for (int[] one : code) {
            if ((one[0] == 9 && one[2] == i) || (one[0] == 10 && one[3] == i)) {
                return true;
            }
        }
        return false;
    }

    /** The last instruction of the block of i. */
    int lastOfBlock(int i) {
        int last = i;
        while (last + 1 < code.length && !beginsBlock(last + 1)) {
            last++;
        }
        return last;
    }

    boolean isLiveAtEnd(int register, int i) {
        return next(lastOfBlock(i)).stream().anyMatch(k -> isLive(register, k));
    }

    TreeSet<Integer> tree(int i) {
        TreeSet<Integer> tree = new TreeSet<>(List.of(i));
        for (int k = 0; k < i; k++) {
            if (carried[k] == i) {
                tree.addAll(tree(k));
            }
        }
        return tree;
    }

    boolean treeReads(int i, int register) {
        for (int k : tree(i)) {
            if (reads(k).contains(register) && !isCarriedThrough(k, register)) {
                return true;
            }
        }
        return false;
    }

    boolean isCarriedThrough(int j, int register) {
        return carriedThrough(j, register) >= 0;
    }

    int carriedThrough(int j, int register) {
        for (int k = 0; k < j; k++) {
            if (carried[k] == j && writes(k, register)) {
                return k;
            }
        }
        return -1;
    }

    void settle(int j) {
        for (int register : reads(j)) {
            int i = j;
            boolean found = false;
            while (!found && !beginsBlock(i)) {
                i--;
                found = writes(i, register);
            }
            if (found && can(i, j, register)) {
                carried[i] = j;
                if (needOf(j) > depth) {
                    carried[i] = -1;
                }
            }
        }
    }

    boolean can(int i, int j, int d) {
        if (reads(j).stream().filter(register -> register == d).count() != 1) {
            return false;
        }
        int last = lastOfBlock(i);
        int writer = -1;
        for (int k = last; k > i; k--) {
            writer = writes(k, d) ? k : writer;
        }
        for (int k = i + 1; k <= (writer < 0 ? last : writer); k++) {
            if (k != j && reads(k).contains(d)) {
                return false;
            }
        }
        if (writer < 0 && isLiveAtEnd(d, i)) {
            return false;
        }
        boolean loads = tree(i).stream().anyMatch(k -> code[k][0] == 6);
        for (int k = i + 1; k < j; k++) {
            if (writes(k, d) || (code[k][0] <= 6 && treeReads(i, code[k][1])) || (loads && code[k][0] == 7)) {
                return false;
            }
        }
        return true;
    }

    int needOfThing(int j, int register) {
        int i = carriedThrough(j, register);
        return i < 0 ? 1 : needOf(i);
    }

    int needOf(int j) {
        List<Integer> read = reads(j);
        if (read.isEmpty()) {
            return code[j][0] == 9 || code[j][0] == 11 ? 0 : 1;
        }
        int first = needOfThing(j, read.get(0));
        if (read.size() == 1) {
            return first;
        }
        int second = needOfThing(j, read.get(1));
        return first == second ? first + 1 : Math.max(first, second);
    }

    private void makeStackCode() {
        int[] places = new int[code.length];
        List<int[]> jumps = new ArrayList<>();
        for (int j = 0; j < code.length; j++) {
            if (carried[j] < 0) {
                places[j] = stack.size();
                codeOfTree(j, jumps);
                if (code[j][0] <= 6) {
                    boolean kept = isKept(j);
                    stores += kept ? 1 : 0;
                    stack.add(kept ? 20000 + code[j][1] : 30000);
                }
            }
        }
        for (int[] jump : jumps) {
            int goal = jump[1];
            while (goal < code.length && carried[goal] >= 0) {
                goal++;
            }
            int place = goal < code.length ? places[goal] : stack.size();
            stack.set(jump[0], stack.get(jump[0]) + place);
        }
        stack.add(140000);
    }

    private boolean isKept(int j) {
        int d = code[j][1];
        for (int k = j + 1; k <= lastOfBlock(j); k++) {
            if (reads(k).contains(d)) {
                return true;
            }
            if (writes(k, d)) {
                return false;
            }
        }
        return isLiveAtEnd(d, j);
    }

    private void codeOfTree(int j, List<int[]> jumps) {
        int operation = code[j][0];
        List<Integer> read = new ArrayList<>(reads(j));
        boolean turned = read.size() == 2 && needOfThing(j, read.get(1)) > needOfThing(j, read.get(0));
        if (turned) {
            read.add(read.remove(0));
        }
        for (int register : read) {
            int i = carriedThrough(j, register);
            if (i < 0) {
                stack.add(10000 + register);
            } else {
                codeOfTree(i, jumps);
            }
        }
        if (turned && (operation == 3 || operation == 5 || operation == 7)) {
            stack.add(40000);
        }
        switch (operation) {
            case 0 -> stack.add(1000 + code[j][2]);
            case 1 -> { }
            case 9 -> {
                jumps.add(new int[] {stack.size(), code[j][2]});
                stack.add(120000);
            }
            case 10 -> {
                jumps.add(new int[] {stack.size(), code[j][3]});
                stack.add(130000);
            }
            default -> stack.add((operation + 3) * 10000);
        }
    }

    private void begin() {
        printed = 0;
        steps = 0;
        cells = new int[16];
        out.clear();
    }

    private void print(int number) {
        printed++;
        if (out.size() < 40) {
            out.add(number);
        }
    }

    void runInstructions() {
        begin();
        int[] r = new int[10];
        int at = 0;
        while (at < code.length && steps < 300) {
            int[] one = code[at];
            int d = one[1];
            int a = one[2];
            int b = one[3];
            steps++;
            at++;
            switch (one[0]) {
                case 0 -> r[d] = a;
                case 1 -> r[d] = r[a];
                case 2 -> r[d] = r[a] + r[b];
                case 3 -> r[d] = r[a] - r[b];
                case 4 -> r[d] = r[a] * r[b];
                case 5 -> r[d] = r[a] < r[b] ? 1 : 0;
                case 6 -> r[d] = cells[Math.floorMod(r[a], 16)];
                case 7 -> cells[Math.floorMod(r[a], 16)] = r[b];
                case 8 -> print(r[a]);
                case 9 -> at = a;
                case 10 -> at = r[a] == 0 ? b : at;
                default -> at = code.length;
            }
        }
    }

    void runOperations() {
        begin();
        int[] r = new int[10];
        ArrayList<Integer> s = new ArrayList<>();
        int at = 0;
        boolean ended = false;
        while (!ended && steps < 2000) {
            int operation = stack.get(at) / 10000;
            int n = stack.get(at) % 10000;
            steps++;
            at++;
            int top = s.isEmpty() ? 0 : s.get(s.size() - 1);
            int under = s.size() < 2 ? 0 : s.get(s.size() - 2);
            int taken = operation == 4 || (operation >= 5 && operation <= 8) || operation == 10 ? 2
                : operation == 2 || operation == 3 || operation == 9 || operation == 11 || operation == 13 ? 1 : 0;
            for (int k = 0; k < taken; k++) {
                s.remove(s.size() - 1);
            }
            switch (operation) {
                case 0 -> s.add(n - 1000);
                case 1 -> s.add(r[n]);
                case 2 -> r[n] = top;
                case 3 -> { }
                case 4 -> s.addAll(List.of(top, under));
                case 5 -> s.add(under + top);
                case 6 -> s.add(under - top);
                case 7 -> s.add(under * top);
                case 8 -> s.add(under < top ? 1 : 0);
                case 9 -> s.add(cells[Math.floorMod(top, 16)]);
                case 10 -> cells[Math.floorMod(under, 16)] = top;
                case 11 -> print(top);
                case 12 -> at = n;
                case 13 -> at = top == 0 ? n : at;
                default -> ended = true;
            }
        }
    }
}
