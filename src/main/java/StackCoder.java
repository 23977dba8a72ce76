/**
 * Turns code for a machine with registers into code for a machine with a stack, and runs both.
 */
public final class StackCoder {
    private static final int MOST_INSTRUCTIONS = 40;
    private static final int REGISTERS = 10;
    private static final int CELLS = 16;
    private static final int GREATEST_CONSTANT = 999;
    private static final int GREATEST_DEPTH = 8;
    private static final int USUAL_DEPTH = 3;
    private static final int NONE = -1;

    private final RegisterCode source;
    private final Flow flow;
    private final Carrying carrying;
    private final StackCode target;
    private final Machine machine;
    /** Whether the source was changed after it was last translated. */
    private boolean stale;

    public StackCoder(int depth) {
        boolean allowed = depth >= 1 && depth <= GREATEST_DEPTH;
        source = new RegisterCode();
        flow = new Flow(source);
        carrying = new Carrying(source, flow, allowed ? depth : USUAL_DEPTH);
        target = new StackCode(source, flow, carrying);
        machine = new Machine();
        stale = true;
    }

    public int add(int operation, int d, int a, int b) {
        int i = source.count();
        if (i >= MOST_INSTRUCTIONS || !RegisterCode.fits(operation, d, a, b)) {
            return NONE;
        }
        source.resize(i + 1);
        source.write(i, operation, d, a, b);
        stale = true;
        return i;
    }

    public boolean set(int i, int operation, int d, int a, int b) {
        if (!source.holds(i) || !RegisterCode.fits(operation, d, a, b)) {
            return false;
        }
        source.write(i, operation, d, a, b);
        stale = true;
        return true;
    }

    public boolean cut(int n) {
        if (n < 0 || n > source.count()) {
            return false;
        }
        source.resize(n);
        stale = true;
        return true;
    }

    public int size() {
        return source.count();
    }

    public int length() {
        translate();
        return target.operationCount();
    }

    public int code(int p) {
        translate();
        return target.holds(p) ? target.encoded(p) : NONE;
    }

    public int carried(int i) {
        translate();
        return source.holds(i) ? carrying.goalOf(i) : NONE;
    }

    public int need(int i) {
        translate();
        return source.holds(i) ? carrying.needOf(i) : NONE;
    }

    public int live(int i) {
        translate();
        return source.holds(i) ? flow.liveBefore(i) : NONE;
    }

    public int stores() {
        translate();
        return target.putCount();
    }

    public int depth() {
        translate();
        return carrying.greatestNeed();
    }

    public int run(int which) {
        if (which == 0) {
            return machine.runInstructions(source);
        }
        if (which == 1) {
            translate();
            return machine.runOperations(target);
        }
        return NONE;
    }

    public int out(int i) {
        return machine.printedNumber(i);
    }

    public int steps() {
        return machine.stepCount();
    }

    public int cell(int i) {
        return machine.cellValue(i);
    }

    /** Done only when it is asked for: a row of changes then costs one translation. */
    private void translate() {
        if (!stale) {
            return;
        }
        flow.trace();
        carrying.settle();
        target.layOut();
        stale = false;
    }

    /** The instructions as they were given, and what each of them reads and writes. */
    private static final class RegisterCode {
        static final int CONST = 0;
        static final int COPY = 1;
        static final int ADD = 2;
        static final int SUB = 3;
        static final int MUL = 4;
        static final int LESS = 5;
        static final int LOAD = 6;
        static final int STORE = 7;
        static final int PRINT = 8;
        static final int JUMP = 9;
        static final int ZERO = 10;
        static final int END = 11;

        private static final int UNUSED = 0;
        private static final int REGISTER = 1;
        private static final int PLACE = 2;
        private static final int VALUE = 3;

        /** What the numbers d, a, b are, by operation. */
        private static final int[] D_KINDS = {
            REGISTER, REGISTER, REGISTER, REGISTER, REGISTER, REGISTER,
            REGISTER, UNUSED, UNUSED, UNUSED, UNUSED, UNUSED};
        private static final int[] A_KINDS = {
            VALUE, REGISTER, REGISTER, REGISTER, REGISTER, REGISTER,
            REGISTER, REGISTER, REGISTER, PLACE, REGISTER, UNUSED};
        private static final int[] B_KINDS = {
            UNUSED, UNUSED, REGISTER, REGISTER, REGISTER, REGISTER,
            UNUSED, REGISTER, UNUSED, UNUSED, PLACE, UNUSED};

        private final int[] operations = new int[MOST_INSTRUCTIONS];
        private final int[] ds = new int[MOST_INSTRUCTIONS];
        private final int[] as = new int[MOST_INSTRUCTIONS];
        private final int[] bs = new int[MOST_INSTRUCTIONS];
        /** The registers that are written, read as a and read as b, or NONE. */
        private final int[] written = new int[MOST_INSTRUCTIONS];
        private final int[] readA = new int[MOST_INSTRUCTIONS];
        private final int[] readB = new int[MOST_INSTRUCTIONS];
        private int count;

        static boolean fits(int operation, int d, int a, int b) {
            return operation >= CONST && operation <= END
                && isOfKind(D_KINDS[operation], d)
                && isOfKind(A_KINDS[operation], a)
                && isOfKind(B_KINDS[operation], b);
        }

        private static boolean isOfKind(int kind, int number) {
            switch (kind) {
                case REGISTER:
                    return number >= 0 && number < REGISTERS;
                case PLACE:
                    return number >= 0 && number < MOST_INSTRUCTIONS;
                case VALUE:
                    return number >= -GREATEST_CONSTANT && number <= GREATEST_CONSTANT;
                default:
                    return number == 0;
            }
        }

        int count() {
            return count;
        }

        boolean holds(int i) {
            return i >= 0 && i < count;
        }

        void resize(int newCount) {
            count = newCount;
        }

        void write(int i, int operation, int d, int a, int b) {
            operations[i] = operation;
            ds[i] = d;
            as[i] = a;
            bs[i] = b;
            written[i] = D_KINDS[operation] == REGISTER ? d : NONE;
            readA[i] = A_KINDS[operation] == REGISTER ? a : NONE;
            readB[i] = B_KINDS[operation] == REGISTER ? b : NONE;
        }

        int operationOf(int i) {
            return operations[i];
        }

        int dOf(int i) {
            return ds[i];
        }

        int aOf(int i) {
            return as[i];
        }

        int bOf(int i) {
            return bs[i];
        }

        /** The register that instruction i writes, or NONE. */
        int writtenBy(int i) {
            return written[i];
        }

        /** The register that instruction i reads as its a, or NONE. */
        int readAsA(int i) {
            return readA[i];
        }

        /** The register that instruction i reads as its b, or NONE. */
        int readAsB(int i) {
            return readB[i];
        }

        boolean reads(int i, int register) {
            return readA[i] == register || readB[i] == register;
        }

        boolean readsOnce(int i, int register) {
            return (readA[i] == register) != (readB[i] == register);
        }
    }

    /** Where the blocks begin, and which registers are live where. */
    private static final class Flow {
        /** Each round but the last adds a register somewhere, so no code needs more. */
        private static final int MOST_ROUNDS = MOST_INSTRUCTIONS * REGISTERS + 1;

        private final RegisterCode code;
        private final boolean[] begins = new boolean[MOST_INSTRUCTIONS];
        private final int[] before = new int[MOST_INSTRUCTIONS];
        private final int[] after = new int[MOST_INSTRUCTIONS];

        Flow(RegisterCode code) {
            this.code = code;
        }

        /** The set that holds this register alone; nothing for NONE. */
        static int setOf(int register) {
            return register == NONE ? 0 : 1 << register;
        }

        void trace() {
            markBlocks();
            for (int i = 0; i < code.count(); i++) {
                before[i] = 0;
            }
            boolean changed = true;
            for (int round = 0; changed && round < MOST_ROUNDS; round++) {
                changed = flowBack();
            }
        }

        private void markBlocks() {
            for (int i = 0; i < code.count(); i++) {
                begins[i] = i == 0;
            }
            for (int i = 0; i < code.count(); i++) {
                switch (code.operationOf(i)) {
                    case RegisterCode.JUMP:
                        markBegin(code.aOf(i));
                        markBegin(i + 1);
                        break;
                    case RegisterCode.ZERO:
                        markBegin(code.bOf(i));
                        markBegin(i + 1);
                        break;
                    case RegisterCode.END:
                        markBegin(i + 1);
                        break;
                    default:
                        break;
                }
            }
        }

        private void markBegin(int i) {
            if (code.holds(i)) {
                begins[i] = true;
            }
        }

        private boolean flowBack() {
            boolean changed = false;
            for (int i = code.count() - 1; i >= 0; i--) {
                after[i] = gatherAfter(i);
                int read = setOf(code.readAsA(i)) | setOf(code.readAsB(i));
                int live = read | (after[i] & ~setOf(code.writtenBy(i)));
                changed = changed || live != before[i];
                before[i] = live;
            }
            return changed;
        }

        private int gatherAfter(int i) {
            switch (code.operationOf(i)) {
                case RegisterCode.JUMP:
                    return liveBefore(code.aOf(i));
                case RegisterCode.ZERO:
                    return liveBefore(code.bOf(i)) | liveBefore(i + 1);
                case RegisterCode.END:
                    return 0;
                default:
                    return liveBefore(i + 1);
            }
        }

        boolean beginsBlock(int i) {
            return begins[i];
        }

        /** Nothing is live behind the last instruction. */
        int liveBefore(int i) {
            return code.holds(i) ? before[i] : 0;
        }

        /** What is live before the instructions to which one goes on from i. */
        int liveAfter(int i) {
            return after[i];
        }
    }

    /** Which instructions are carried into which, and what their trees read and need. */
    private static final class Carrying {
        private final RegisterCode code;
        private final Flow flow;
        private final int mostNeed;
        private final int[] goals = new int[MOST_INSTRUCTIONS];
        private final int[] carriedAsA = new int[MOST_INSTRUCTIONS];
        private final int[] carriedAsB = new int[MOST_INSTRUCTIONS];
        private final int[] needs = new int[MOST_INSTRUCTIONS];
        private final int[] treeReads = new int[MOST_INSTRUCTIONS];
        private final boolean[] treeLoads = new boolean[MOST_INSTRUCTIONS];

        Carrying(RegisterCode code, Flow flow, int mostNeed) {
            this.code = code;
            this.flow = flow;
            this.mostNeed = mostNeed;
        }

        void settle() {
            for (int j = 0; j < code.count(); j++) {
                goals[j] = NONE;
                carriedAsA[j] = NONE;
                carriedAsB[j] = NONE;
            }
            for (int j = 0; j < code.count(); j++) {
                carryInto(j);
                noteTree(j);
            }
        }

        private void carryInto(int j) {
            int forA = carriable(code.readAsA(j), j);
            if (forA != NONE && needWith(j, forA, NONE) <= mostNeed) {
                carriedAsA[j] = forA;
                goals[forA] = j;
            }
            int forB = carriable(code.readAsB(j), j);
            if (forB != NONE && needWith(j, carriedAsA[j], forB) <= mostNeed) {
                carriedAsB[j] = forB;
                goals[forB] = j;
            }
        }

        private void noteTree(int j) {
            int asA = carriedAsA[j];
            int asB = carriedAsB[j];
            needs[j] = needWith(j, asA, asB);
            treeReads[j] = thingReads(code.readAsA(j), asA) | thingReads(code.readAsB(j), asB);
            treeLoads[j] = code.operationOf(j) == RegisterCode.LOAD
                || thingLoads(asA) || thingLoads(asB);
        }

        /** The writer that can be carried into j through this register, or NONE. */
        private int carriable(int register, int j) {
            int i = lastWriter(register, j);
            boolean can = i != NONE && code.readsOnce(j, register)
                && isReadByNoneBut(j, i) && canWait(i, j);
            return can ? i : NONE;
        }

        private int lastWriter(int register, int j) {
            if (register == NONE) {
                return NONE;
            }
            for (int k = j; k > 0 && !flow.beginsBlock(k); k--) {
                if (code.writtenBy(k - 1) == register) {
                    return k - 1;
                }
            }
            return NONE;
        }

        /** Whether no instruction but j, in i's block or behind it, reads what i writes. */
        private boolean isReadByNoneBut(int j, int i) {
            int register = code.writtenBy(i);
            int last = i;
            for (int k = i + 1; k < code.count() && !flow.beginsBlock(k); k++) {
                if (k != j && code.reads(k, register)) {
                    return false;
                }
                if (code.writtenBy(k) == register) {
                    return true;
                }
                last = k;
            }
            return (flow.liveAfter(last) & Flow.setOf(register)) == 0;
        }

        /** Whether the tree of i, worked out only at j, has the same value there. */
        private boolean canWait(int i, int j) {
            for (int k = i + 1; k < j; k++) {
                if ((treeReads[i] & Flow.setOf(code.writtenBy(k))) != 0) {
                    return false;
                }
                if (treeLoads[i] && code.operationOf(k) == RegisterCode.STORE) {
                    return false;
                }
            }
            return true;
        }

        /** The need of j if these were carried in for its a and b (NONE: a register). */
        private int needWith(int j, int asA, int asB) {
            if (code.readAsA(j) == NONE) {
                return code.operationOf(j) == RegisterCode.CONST ? 1 : 0;
            }
            int needA = thingNeed(asA);
            if (code.readAsB(j) == NONE) {
                return needA;
            }
            int needB = thingNeed(asB);
            return needA == needB ? needA + 1 : Math.max(needA, needB);
        }

        private int thingNeed(int i) {
            return i == NONE ? 1 : needs[i];
        }

        private int thingReads(int register, int i) {
            return i == NONE ? Flow.setOf(register) : treeReads[i];
        }

        private boolean thingLoads(int i) {
            return i != NONE && treeLoads[i];
        }

        boolean isCarried(int i) {
            return goals[i] != NONE;
        }

        /** The instruction into which i is carried, or NONE. */
        int goalOf(int i) {
            return goals[i];
        }

        int inForA(int j) {
            return carriedAsA[j];
        }

        int inForB(int j) {
            return carriedAsB[j];
        }

        /** Whether what j reads as b is to be worked out before what it reads as a. */
        boolean takesBFirst(int j) {
            return code.readAsB(j) != NONE && thingNeed(carriedAsB[j]) > thingNeed(carriedAsA[j]);
        }

        int needOf(int i) {
            return needs[i];
        }

        int greatestNeed() {
            int greatest = 0;
            for (int i = 0; i < code.count(); i++) {
                greatest = Math.max(greatest, needs[i]);
            }
            return greatest;
        }
    }

    /**
     * The stack code. Its places are reckoned first, from the widths of the trees; then each
     * instruction writes its own operations at its place, so that no recursion is needed.
     */
    private static final class StackCode {
        static final int PUSH = 0;
        static final int GET = 1;
        static final int PUT = 2;
        static final int DROP = 3;
        static final int SWAP = 4;
        static final int ADD = 5;
        static final int SUB = 6;
        static final int MUL = 7;
        static final int LESS = 8;
        static final int LOAD = 9;
        static final int STORE = 10;
        static final int PRINT = 11;
        static final int JUMP = 12;
        static final int ZERO = 13;
        static final int END = 14;

        /** An instruction has at most two GETs, SWAP, its operation and PUT; END ends all. */
        private static final int MOST_OPERATIONS = 5 * MOST_INSTRUCTIONS + 1;
        private static final int OPERATION_WEIGHT = 10000;
        private static final int PUSH_OFFSET = 1000;

        /** The operation of stack code, by the operation of register code. */
        private static final int[] OWN = {
            PUSH, NONE, ADD, SUB, MUL, LESS, LOAD, STORE, PRINT, JUMP, ZERO, END};

        private final RegisterCode code;
        private final Flow flow;
        private final Carrying carrying;
        private final int[] operations = new int[MOST_OPERATIONS];
        private final int[] numbers = new int[MOST_OPERATIONS];
        private final int[] widths = new int[MOST_INSTRUCTIONS];
        private final int[] starts = new int[MOST_INSTRUCTIONS];
        private int endPlace;
        private int puts;

        StackCode(RegisterCode code, Flow flow, Carrying carrying) {
            this.code = code;
            this.flow = flow;
            this.carrying = carrying;
        }

        void layOut() {
            endPlace = 0;
            puts = 0;
            for (int j = 0; j < code.count(); j++) {
                widths[j] = widthOf(j);
                if (!carrying.isCarried(j)) {
                    starts[j] = endPlace;
                    endPlace += widths[j];
                }
            }
            // Backwards, since a carried instruction is given its start by its goal behind it.
            for (int j = code.count() - 1; j >= 0; j--) {
                writeInstruction(j);
            }
            write(endPlace, END, 0);
        }

        private int widthOf(int j) {
            int width = thingWidth(code.readAsA(j), carrying.inForA(j))
                + thingWidth(code.readAsB(j), carrying.inForB(j));
            if (needsSwap(j)) {
                width++;
            }
            if (OWN[code.operationOf(j)] != NONE) {
                width++;
            }
            return leavesValue(j) ? width + 1 : width;
        }

        private int thingWidth(int register, int i) {
            if (register == NONE) {
                return 0;
            }
            return i == NONE ? 1 : widths[i];
        }

        private boolean needsSwap(int j) {
            int operation = code.operationOf(j);
            return carrying.takesBFirst(j)
                && (operation == RegisterCode.SUB || operation == RegisterCode.LESS
                    || operation == RegisterCode.STORE);
        }

        /** Whether the value of j must be taken off the stack behind it. */
        private boolean leavesValue(int j) {
            return code.writtenBy(j) != NONE && !carrying.isCarried(j);
        }

        private void writeInstruction(int j) {
            int place = writeThings(starts[j], j);
            if (needsSwap(j)) {
                place = write(place, SWAP, 0);
            }
            int own = OWN[code.operationOf(j)];
            if (own != NONE) {
                place = write(place, own, ownNumber(j));
            }
            if (leavesValue(j)) {
                writeEnd(place, j);
            }
        }

        private int writeThings(int start, int j) {
            int registerA = code.readAsA(j);
            int registerB = code.readAsB(j);
            int inForA = carrying.inForA(j);
            int inForB = carrying.inForB(j);
            if (carrying.takesBFirst(j)) {
                return writeThing(writeThing(start, registerB, inForB), registerA, inForA);
            }
            return writeThing(writeThing(start, registerA, inForA), registerB, inForB);
        }

        private int writeThing(int place, int register, int i) {
            if (register == NONE) {
                return place;
            }
            if (i == NONE) {
                return write(place, GET, register);
            }
            starts[i] = place;
            return place + widths[i];
        }

        private int ownNumber(int j) {
            switch (code.operationOf(j)) {
                case RegisterCode.CONST:
                    return code.aOf(j);
                case RegisterCode.JUMP:
                    return startFrom(code.aOf(j));
                case RegisterCode.ZERO:
                    return startFrom(code.bOf(j));
                default:
                    return 0;
            }
        }

        /** Where the first instruction from i on that is not carried begins. */
        private int startFrom(int i) {
            for (int k = i; k < code.count(); k++) {
                if (!carrying.isCarried(k)) {
                    return starts[k];
                }
            }
            return endPlace;
        }

        /** What is live right behind j is what is read in its block or lives on behind it. */
        private void writeEnd(int place, int j) {
            int register = code.writtenBy(j);
            if ((flow.liveAfter(j) & Flow.setOf(register)) != 0) {
                write(place, PUT, register);
                puts++;
            } else {
                write(place, DROP, 0);
            }
        }

        /** Answers the next place. */
        private int write(int place, int operation, int number) {
            if (place >= 0 && place < MOST_OPERATIONS) {
                operations[place] = operation;
                numbers[place] = number;
            }
            return place + 1;
        }

        boolean holds(int p) {
            return p >= 0 && p <= endPlace && p < MOST_OPERATIONS;
        }

        int operationCount() {
            return endPlace + 1;
        }

        int putCount() {
            return puts;
        }

        int operationAt(int p) {
            return operations[p];
        }

        int numberAt(int p) {
            return numbers[p];
        }

        int encoded(int p) {
            int offset = operations[p] == PUSH ? PUSH_OFFSET : 0;
            return OPERATION_WEIGHT * operations[p] + offset + numbers[p];
        }
    }

    /** Runs either code, and keeps what the last run left. */
    private static final class Machine {
        private static final int MOST_INSTRUCTION_STEPS = 300;
        private static final int MOST_OPERATION_STEPS = 2000;
        private static final int KEPT = 40;

        private final int[] registers = new int[REGISTERS];
        private final int[] cells = new int[CELLS];
        private final int[] kept = new int[KEPT];
        /** No need is above the greatest depth, so no stack code goes deeper than this. */
        private final int[] stack = new int[GREATEST_DEPTH];
        private int height;
        private int printed;
        private int steps;

        int runInstructions(RegisterCode code) {
            reset();
            int at = 0;
            int done = 0;
            for (; done < MOST_INSTRUCTION_STEPS && code.holds(at); done++) {
                at = followInstruction(code, at);
            }
            steps = done;
            return printed;
        }

        int runOperations(StackCode code) {
            reset();
            int at = 0;
            int done = 0;
            for (; done < MOST_OPERATION_STEPS && code.holds(at); done++) {
                at = followOperation(code.operationAt(at), code.numberAt(at), at + 1);
            }
            steps = done;
            return printed;
        }

        private void reset() {
            for (int i = 0; i < REGISTERS; i++) {
                registers[i] = 0;
            }
            for (int i = 0; i < CELLS; i++) {
                cells[i] = 0;
            }
            height = 0;
            printed = 0;
        }

        /** Answers the instruction to go on to; NONE ends the run. */
        private int followInstruction(RegisterCode code, int at) {
            int a = code.aOf(at);
            int b = code.bOf(at);
            switch (code.operationOf(at)) {
                case RegisterCode.STORE:
                    cells[cellIndex(registers[a])] = registers[b];
                    return at + 1;
                case RegisterCode.PRINT:
                    print(registers[a]);
                    return at + 1;
                case RegisterCode.JUMP:
                    return a;
                case RegisterCode.ZERO:
                    return registers[a] == 0 ? b : at + 1;
                case RegisterCode.END:
                    return NONE;
                default:
                    registers[code.dOf(at)] = valueOf(code.operationOf(at), a, b);
                    return at + 1;
            }
        }

        /** What a writer writes. */
        private int valueOf(int operation, int a, int b) {
            switch (operation) {
                case RegisterCode.CONST:
                    return a;
                case RegisterCode.COPY:
                    return registers[a];
                case RegisterCode.ADD:
                    return registers[a] + registers[b];
                case RegisterCode.SUB:
                    return registers[a] - registers[b];
                case RegisterCode.MUL:
                    return registers[a] * registers[b];
                case RegisterCode.LESS:
                    return registers[a] < registers[b] ? 1 : 0;
                case RegisterCode.LOAD:
                    return cells[cellIndex(registers[a])];
                default:
                    return 0;
            }
        }

        /** Answers the place to go on to; NONE ends the run. */
        private int followOperation(int operation, int number, int next) {
            switch (operation) {
                case StackCode.PUSH:
                    push(number);
                    return next;
                case StackCode.GET:
                    push(registers[number]);
                    return next;
                case StackCode.PUT:
                    registers[number] = pop();
                    return next;
                case StackCode.DROP:
                    pop();
                    return next;
                case StackCode.LOAD:
                    push(cells[cellIndex(pop())]);
                    return next;
                case StackCode.PRINT:
                    print(pop());
                    return next;
                case StackCode.JUMP:
                    return number;
                case StackCode.ZERO:
                    return pop() == 0 ? number : next;
                case StackCode.END:
                    return NONE;
                default:
                    joinTopTwo(operation);
                    return next;
            }
        }

        private void joinTopTwo(int operation) {
            int upper = pop();
            int lower = pop();
            switch (operation) {
                case StackCode.SWAP:
                    push(upper);
                    push(lower);
                    break;
                case StackCode.ADD:
                    push(lower + upper);
                    break;
                case StackCode.SUB:
                    push(lower - upper);
                    break;
                case StackCode.MUL:
                    push(lower * upper);
                    break;
                case StackCode.LESS:
                    push(lower < upper ? 1 : 0);
                    break;
                case StackCode.STORE:
                    cells[cellIndex(lower)] = upper;
                    break;
                default:
                    break;
            }
        }

        private void push(int value) {
            if (height >= 0 && height < GREATEST_DEPTH) {
                stack[height] = value;
                height++;
            }
        }

        private int pop() {
            if (height <= 0 || height > GREATEST_DEPTH) {
                return 0;
            }
            height--;
            return stack[height];
        }

        private void print(int value) {
            if (printed < KEPT) {
                kept[printed] = value;
            }
            printed++;
        }

        /** The remainder that is 0 .. 15 also for numbers less than 0. */
        private static int cellIndex(int value) {
            return value & (CELLS - 1);
        }

        int printedNumber(int i) {
            return i >= 0 && i < printed && i < KEPT ? kept[i] : 0;
        }

        int stepCount() {
            return steps;
        }

        int cellValue(int i) {
            return i >= 0 && i < CELLS ? cells[i] : 0;
        }
    }
}
