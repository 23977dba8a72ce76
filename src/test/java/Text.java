/** Code and answers written as words, so that a test can be read beside the document. */
final class Text {
    private static final String[] INSTRUCTIONS = {
        "CONST", "COPY", "ADD", "SUB", "MUL", "LESS", "LOAD", "STORE", "PRINT", "JUMP", "ZERO", "END"};
    /** Which of d, a, b stand behind the name; the others are 0. */
    private static final String[] FORMS = {
        "da", "da", "dab", "dab", "dab", "dab", "da", "ab", "a", "a", "ab", ""};
    private static final String[] OPERATIONS = {
        "PUSH", "GET", "PUT", "DROP", "SWAP", "ADD", "SUB", "MUL", "LESS", "LOAD", "STORE", "PRINT",
        "JUMP", "ZERO", "END"};
    /** PUSH, GET, PUT, JUMP, ZERO. */
    private static final String WITH_NUMBER = " 0 1 2 12 13 ";

    private Text() {
    }

    /** A new object with this code: instructions parted by ";", as "CONST 1 5; PRINT 1". */
    static StackCoder coder(int depth, String code) {
        StackCoder x = new StackCoder(depth);
        add(x, code);
        return x;
    }

    static void add(StackCoder x, String code) {
        for (String words : code.split(";")) {
            int[] n = instruction(words.trim());
            int size = x.size();
            Check.due("add of " + words, x.add(n[0], n[1], n[2], n[3]), size);
        }
    }

    static boolean set(StackCoder x, int i, String words) {
        int[] n = instruction(words);
        return x.set(i, n[0], n[1], n[2], n[3]);
    }

    /** The operation and d, a, b. */
    private static int[] instruction(String words) {
        String[] parts = words.split(" ");
        int operation = java.util.Arrays.asList(INSTRUCTIONS).indexOf(parts[0]);
        if (operation < 0 || parts.length != FORMS[operation].length() + 1) {
            throw new IllegalArgumentException(words);
        }
        int[] numbers = {operation, 0, 0, 0};
        for (int k = 1; k < parts.length; k++) {
            char place = FORMS[operation].charAt(k - 1);
            numbers["dab".indexOf(place) + 1] = Integer.parseInt(parts[k]);
        }
        return numbers;
    }

    /** The same words, many times. */
    static String times(int count, String words) {
        return String.join("; ", java.util.Collections.nCopies(count, words));
    }

    /** The stack code, as "PUSH 5; PRINT; END". */
    static String stackCode(StackCoder x) {
        StringBuilder words = new StringBuilder();
        int length = x.length();
        for (int p = 0; p < length; p++) {
            words.append(p == 0 ? "" : "; ").append(operation(x.code(p)));
        }
        return words.toString();
    }

    private static String operation(int coded) {
        int operation = coded / 10000;
        int number = coded % 10000 - (operation == 0 ? 1000 : 0);
        if (coded < 0 || operation >= OPERATIONS.length) {
            return "no operation (" + coded + ")";
        }
        boolean withNumber = WITH_NUMBER.contains(" " + operation + " ");
        return OPERATIONS[operation] + (withNumber || number != 0 ? " " + number : "");
    }

    /** What carried answers for each instruction, as "1 -1". */
    static String carried(StackCoder x) {
        StringBuilder words = new StringBuilder();
        for (int i = 0; i < x.size(); i++) {
            words.append(i == 0 ? "" : " ").append(x.carried(i));
        }
        return words.toString();
    }

    static String needs(StackCoder x) {
        StringBuilder words = new StringBuilder();
        for (int i = 0; i < x.size(); i++) {
            words.append(i == 0 ? "" : " ").append(x.need(i));
        }
        return words.toString();
    }

    /** What live answers for each instruction. */
    static String live(StackCoder x) {
        StringBuilder words = new StringBuilder();
        for (int i = 0; i < x.size(); i++) {
            words.append(i == 0 ? "" : " ").append(x.live(i));
        }
        return words.toString();
    }

    /** What a run puts out, as "2: 5 7"; of more than 40 only those that are kept. */
    static String printed(StackCoder x, int which) {
        int count = x.run(which);
        StringBuilder words = new StringBuilder(count + ":");
        for (int i = 0; i < Math.min(count, 40); i++) {
            words.append(" ").append(x.out(i));
        }
        return words.toString();
    }

    /** The cells of memory behind the last run. */
    static String cells(StackCoder x) {
        StringBuilder words = new StringBuilder();
        for (int i = 0; i < 16; i++) {
            words.append(i == 0 ? "" : " ").append(x.cell(i));
        }
        return words.toString();
    }

    /** All that the object can tell without being changed. */
    static String all(StackCoder x) {
        StringBuilder words = new StringBuilder();
        words.append("size ").append(x.size()).append(", depth ").append(x.depth());
        words.append(", stores ").append(x.stores()).append(", code ").append(stackCode(x));
        words.append(", carried ").append(carried(x)).append(", needs ").append(needs(x));
        words.append(", live ").append(live(x)).append(", steps ").append(x.steps());
        words.append(", cells ").append(cells(x)).append(", out");
        for (int i = 0; i < 41; i++) {
            words.append(" ").append(x.out(i));
        }
        return words.toString();
    }
}
