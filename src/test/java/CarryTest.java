/** Promises 8, 9 and 12: carried, need, depth. */
public final class CarryTest {
    public static void main(String[] args) {
        noSuchInstruction();
        needsOfPlainCode();
        readExactlyOnce();
        readByOthers();
        liveAtTheEnd();
        writtenBetween();
        loadsAndStores();
        treesReadOn();
        onlyInOneBlock();
        needAgainstDepth();
        aBeforeB();
        longChain();
        Check.end();
    }

    private static void dueCarried(String what, StackCoder x, int... want) {
        for (int i = 0; i < want.length; i++) {
            Check.due(what + ": carried(" + i + ")", x.carried(i), want[i]);
        }
    }

    private static void dueNeeds(String what, StackCoder x, int... want) {
        for (int i = 0; i < want.length; i++) {
            Check.due(what + ": need(" + i + ")", x.need(i), want[i]);
        }
    }

    private static void noSuchInstruction() {
        StackCoder x = Check.made(3, 0, 1, 5, 0, 8, 0, 1, 0);
        int[] wrong = {-1, 2, 39, 40, Integer.MIN_VALUE, Integer.MAX_VALUE};
        for (int i : wrong) {
            Check.due("carried(" + i + ")", x.carried(i), -1);
            Check.due("need(" + i + ")", x.need(i), -1);
        }
        dueCarried("two", x, 1, -1);
        dueNeeds("two", x, 1, 1);
        Check.due("two: depth()", x.depth(), 1);
    }

    private static void needsOfPlainCode() {
        StackCoder x = Check.made(3, 0, 1, 5, 0, 1, 2, 3, 0, 2, 2, 3, 4, 3, 2, 3, 3, 4, 2, 3, 4,
            5, 2, 3, 4, 6, 2, 3, 0, 7, 0, 3, 4, 8, 0, 3, 0, 9, 0, 0, 0, 10, 0, 3, 0, 11, 0, 0, 0);
        dueNeeds("plain", x, 1, 1, 2, 2, 2, 2, 1, 2, 1, 0, 1, 0);
        Check.due("plain: depth()", x.depth(), 2);
        Check.due("JUMP alone: depth()", Check.made(3, 9, 0, 0, 0).depth(), 0);
        Check.due("END alone: depth()", Check.made(3, 11, 0, 0, 0).depth(), 0);
        StackCoder one = Check.made(1, 2, 3, 1, 2, 8, 0, 3, 0);
        Check.due("need above D: depth()", one.depth(), 2);
        dueCarried("need above D", one, -1, -1);
        dueNeeds("need above D", one, 2, 1);
    }

    private static void readExactlyOnce() {
        dueCarried("read once as a", Check.made(3, 0, 1, 5, 0, 2, 2, 1, 3), 1, -1);
        dueCarried("read once as b", Check.made(3, 0, 1, 5, 0, 2, 2, 3, 1), 1, -1);
        dueCarried("read twice by j", Check.made(3, 0, 1, 5, 0, 2, 2, 1, 1), -1, -1);
        dueCarried("STORE at itself", Check.made(3, 0, 1, 5, 0, 7, 0, 1, 1), -1, -1);
        dueCarried("into ZERO", Check.made(3, 0, 1, 5, 0, 10, 0, 1, 2), 1, -1);
        dueCarried("place of ZERO is no register", Check.made(3, 0, 1, 5, 0, 10, 0, 2, 1), -1, -1);
        dueCarried("value of CONST is no register", Check.made(3, 0, 1, 5, 0, 0, 2, 1, 0), -1, -1);
        dueCarried("unused b is no register", Check.made(3, 0, 0, 5, 0, 1, 1, 2, 0), -1, -1);
        dueCarried("unused d and b are no registers", Check.made(3, 0, 0, 5, 0, 8, 0, 2, 0), -1, -1);
        dueCarried("place of JUMP is no register", Check.made(3, 0, 2, 5, 0, 9, 0, 2, 0), -1, -1);
        dueCarried("both things", Check.made(3, 0, 1, 5, 0, 0, 2, 6, 0, 7, 0, 2, 1), 2, 2, -1);
    }

    private static void readByOthers() {
        dueCarried("read twice", Check.made(3, 0, 1, 5, 0, 8, 0, 1, 0, 8, 0, 1, 0), -1, -1, -1);
        dueCarried("the next writer reads too",
            Check.made(3, 0, 1, 5, 0, 8, 0, 1, 0, 2, 1, 1, 2, 8, 0, 1, 0), -1, -1, 3, -1);
        dueCarried("behind the next writer",
            Check.made(3, 0, 1, 5, 0, 8, 0, 1, 0, 0, 1, 2, 0, 8, 0, 1, 0), 1, -1, 3, -1);
        dueCarried("j is the next writer",
            Check.made(3, 0, 1, 5, 0, 2, 1, 1, 2, 8, 0, 1, 0), 1, 2, -1);
        dueCarried("the last writer only",
            Check.made(3, 0, 1, 5, 0, 0, 1, 6, 0, 8, 0, 1, 0), -1, 2, -1);
    }

    private static void liveAtTheEnd() {
        dueCarried("not live at the end", Check.made(3, 0, 1, 5, 0, 8, 0, 1, 0, 9, 0, 5, 0), 1, -1, -1);
        dueCarried("live by JUMP",
            Check.made(3, 0, 1, 5, 0, 8, 0, 1, 0, 9, 0, 4, 0, 11, 0, 0, 0, 8, 0, 1, 0), -1, -1, -1, -1, -1);
        dueCarried("live by ZERO, far way",
            Check.made(3, 0, 1, 5, 0, 10, 0, 1, 3, 11, 0, 0, 0, 8, 0, 1, 0), -1, -1, -1, -1);
        dueCarried("live by ZERO, near way",
            Check.made(3, 0, 1, 5, 0, 10, 0, 1, 3, 8, 0, 1, 0), -1, -1, -1);
        dueCarried("live into the next block",
            Check.made(3, 0, 1, 5, 0, 8, 0, 1, 0, 8, 0, 1, 0, 9, 0, 2, 0), -1, -1, -1, -1);
        dueCarried("live, but of a later writer",
            Check.made(3, 0, 1, 5, 0, 8, 0, 1, 0, 0, 1, 6, 0, 10, 0, 2, 5, 11, 0, 0, 0, 8, 0, 1, 0),
            1, -1, -1, -1, -1, -1);
        dueCarried("nothing is live behind END",
            Check.made(3, 0, 1, 5, 0, 8, 0, 1, 0, 11, 0, 0, 0, 8, 0, 1, 0), 1, -1, -1, -1);
    }

    private static void writtenBetween() {
        dueCarried("a is written between",
            Check.made(3, 2, 3, 1, 2, 0, 1, 5, 0, 8, 0, 3, 0), -1, -1, -1);
        dueCarried("b is written between",
            Check.made(3, 2, 3, 1, 2, 0, 2, 5, 0, 8, 0, 3, 0), -1, -1, -1);
        dueCarried("another is written between",
            Check.made(3, 2, 3, 1, 2, 0, 4, 5, 0, 8, 0, 3, 0), 2, -1, -1);
        dueCarried("j writes it", Check.made(3, 2, 3, 1, 2, 1, 1, 3, 0, 8, 0, 1, 0), 1, 2, -1);
        dueCarried("also by one that is carried itself",
            Check.made(3, 1, 3, 1, 0, 0, 1, 5, 0, 2, 4, 3, 1, 8, 0, 4, 0), -1, 2, 3, -1);
    }

    private static void loadsAndStores() {
        dueCarried("LOAD over STORE",
            Check.made(3, 6, 1, 2, 0, 7, 0, 3, 4, 8, 0, 1, 0), -1, -1, -1);
        dueCarried("LOAD into STORE", Check.made(3, 6, 1, 2, 0, 7, 0, 3, 1), 1, -1);
        dueCarried("LOAD over PRINT",
            Check.made(3, 6, 1, 2, 0, 8, 0, 3, 0, 8, 0, 1, 0), 2, -1, -1);
        dueCarried("COPY over STORE",
            Check.made(3, 1, 1, 2, 0, 7, 0, 3, 4, 8, 0, 1, 0), 2, -1, -1);
        dueCarried("a tree with LOAD over STORE",
            Check.made(3, 6, 1, 2, 0, 2, 5, 3, 1, 7, 0, 3, 4, 8, 0, 5, 0), 1, -1, -1, -1);
        dueCarried("a tree that holds LOAD deeper",
            Check.made(3, 6, 1, 2, 0, 1, 5, 1, 0, 1, 6, 5, 0, 7, 0, 3, 4, 8, 0, 6, 0), 1, 2, -1, -1, -1);
    }

    private static void treesReadOn() {
        dueCarried("what the carried one reads is written",
            Check.made(3, 1, 1, 2, 0, 1, 3, 1, 0, 0, 2, 5, 0, 8, 0, 3, 0), 1, -1, -1, -1);
        dueCarried("the register between is no longer read",
            Check.made(3, 1, 1, 2, 0, 1, 3, 1, 0, 0, 1, 5, 0, 8, 0, 3, 0), 1, 3, -1, -1);
        dueCarried("the carried one itself reads that register",
            Check.made(3, 2, 1, 1, 2, 1, 3, 1, 0, 0, 1, 5, 0, 8, 0, 3, 0), 1, -1, -1, -1);
    }

    private static void onlyInOneBlock() {
        dueCarried("a jump goes to j",
            Check.made(3, 0, 1, 5, 0, 8, 0, 1, 0, 10, 0, 2, 1), -1, -1, -1);
        dueCarried("a ZERO that is never reached goes to j",
            Check.made(3, 0, 1, 5, 0, 8, 0, 1, 0, 11, 0, 0, 0, 10, 0, 2, 1), -1, -1, -1, -1);
        dueCarried("a JUMP that is never reached goes to j",
            Check.made(3, 0, 1, 5, 0, 8, 0, 1, 0, 11, 0, 0, 0, 9, 0, 1, 0), -1, -1, -1, -1);
        dueCarried("a jump goes to i",
            Check.made(3, 8, 0, 3, 0, 0, 1, 5, 0, 8, 0, 1, 0, 10, 0, 2, 1), -1, 2, -1, -1);
        dueCarried("a jump goes between",
            Check.made(3, 0, 1, 5, 0, 8, 0, 3, 0, 8, 0, 1, 0, 9, 0, 1, 0), -1, -1, -1, -1);
        dueCarried("behind ZERO", Check.made(3, 0, 1, 5, 0, 10, 0, 2, 39, 8, 0, 1, 0), -1, -1, -1);
        dueCarried("behind END", Check.made(3, 0, 1, 5, 0, 11, 0, 0, 0, 8, 0, 1, 0), -1, -1, -1);
        dueCarried("behind JUMP", Check.made(3, 0, 1, 5, 0, 9, 0, 2, 0, 8, 0, 1, 0), -1, -1, -1);
    }

    /** (r1 + r2) + (r3 + r4) needs 3. */
    private static void needAgainstDepth() {
        int[] sum = {2, 5, 1, 2, 2, 6, 3, 4, 2, 7, 5, 6, 8, 0, 7, 0};
        StackCoder three = Check.made(3, sum);
        dueCarried("D 3", three, 2, 2, 3, -1);
        dueNeeds("D 3", three, 2, 2, 3, 3);
        Check.due("D 3: depth()", three.depth(), 3);
        StackCoder two = Check.made(2, sum);
        dueCarried("D 2", two, 2, -1, 3, -1);
        dueNeeds("D 2", two, 2, 2, 2, 2);
        Check.due("D 2: depth()", two.depth(), 2);
        StackCoder one = Check.made(1, sum);
        dueCarried("D 1", one, -1, -1, -1, -1);
        dueNeeds("D 1", one, 2, 2, 2, 1);
        StackCoder chain = Check.made(1, 0, 1, 5, 0, 1, 2, 1, 0, 6, 3, 2, 0, 8, 0, 3, 0);
        dueCarried("D 1, one thing each", chain, 1, 2, 3, -1);
        Check.due("D 1, one thing each: depth()", chain.depth(), 1);
        StackCoder left = Check.made(3, 2, 5, 1, 2, 2, 6, 5, 3, 2, 7, 4, 6, 8, 0, 7, 0);
        dueNeeds("unlike needs", left, 2, 2, 2, 2);
    }

    /** Only one of the two has room: a has it, also where b was written before. */
    private static void aBeforeB() {
        dueCarried("b written first",
            Check.made(2, 2, 6, 3, 4, 2, 5, 1, 2, 3, 7, 5, 6), -1, 2, -1);
        dueCarried("a has no room, b has",
            Check.made(2, 2, 5, 1, 2, 8, 0, 5, 0, 2, 6, 3, 4, 3, 7, 5, 6), -1, -1, 3, -1);
    }

    private static void longChain() {
        StackCoder x = new StackCoder(2);
        x.add(0, 1, 1, 0);
        for (int i = 1; i < 39; i++) {
            x.add(2, 1, 2, 1);
        }
        x.add(8, 0, 1, 0);
        for (int i = 0; i < 39; i++) {
            Check.due("chain: carried(" + i + ")", x.carried(i), i + 1);
        }
        Check.due("chain: carried(39)", x.carried(39), -1);
        Check.due("chain: depth()", x.depth(), 2);
        Check.due("chain: length()", x.length(), 1 + 2 * 38 + 2);
        Check.due("chain: stores()", x.stores(), 0);
        Check.due("chain: run(1)", x.run(1), 1);
        Check.due("chain: out(0)", x.out(0), 1);
    }
}
