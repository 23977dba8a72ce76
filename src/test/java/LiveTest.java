/** Promise 10: live. */
public final class LiveTest {
    public static void main(String[] args) {
        noSuchInstruction();
        eachOperation();
        straightCode();
        waysOverTheCode();
        loops();
        longWayRound();
        Check.end();
    }

    private static void dueLive(String what, StackCoder x, int... want) {
        for (int i = 0; i < want.length; i++) {
            Check.due(what + ": live(" + i + ")", x.live(i), want[i]);
        }
    }

    private static void noSuchInstruction() {
        StackCoder x = Check.made(3, 8, 0, 1, 0);
        int[] wrong = {-1, 1, 39, 40, Integer.MIN_VALUE, Integer.MAX_VALUE};
        for (int i : wrong) {
            Check.due("live(" + i + ")", x.live(i), -1);
        }
    }

    private static void eachOperation() {
        dueLive("CONST", Check.made(3, 0, 1, 9, 0), 0);
        dueLive("COPY", Check.made(3, 1, 1, 9, 0), 512);
        dueLive("ADD", Check.made(3, 2, 1, 2, 3), 12);
        dueLive("SUB", Check.made(3, 3, 1, 2, 3), 12);
        dueLive("MUL", Check.made(3, 4, 1, 1, 1), 2);
        dueLive("LESS", Check.made(3, 5, 1, 2, 3), 12);
        dueLive("LOAD", Check.made(3, 6, 1, 3, 0), 8);
        dueLive("STORE", Check.made(3, 7, 0, 2, 3), 12);
        dueLive("PRINT", Check.made(3, 8, 0, 3, 0), 8);
        dueLive("JUMP", Check.made(3, 9, 0, 3, 0), 0);
        dueLive("ZERO", Check.made(3, 10, 0, 3, 5), 8);
        dueLive("END", Check.made(3, 11, 0, 0, 0), 0);
    }

    private static void straightCode() {
        dueLive("read and written", Check.made(3, 8, 0, 1, 0, 0, 1, 5, 0, 8, 0, 1, 0), 2, 0, 2);
        dueLive("read by its writer", Check.made(3, 2, 1, 1, 2, 8, 0, 1, 0), 6, 2);
        dueLive("behind END", Check.made(3, 11, 0, 0, 0, 8, 0, 1, 0), 0, 2);
    }

    private static void waysOverTheCode() {
        dueLive("JUMP", Check.made(3, 9, 0, 2, 0, 8, 0, 1, 0, 8, 0, 2, 0), 4, 6, 4);
        dueLive("ZERO", Check.made(3, 10, 0, 3, 3, 8, 0, 1, 0, 11, 0, 0, 0, 8, 0, 2, 0), 14, 2, 0, 4);
        dueLive("JUMP behind the last", Check.made(3, 9, 0, 2, 0, 8, 0, 1, 0), 0, 2);
        dueLive("ZERO beyond the last", Check.made(3, 10, 0, 3, 39, 8, 0, 1, 0), 10, 2);
        dueLive("written on one way only",
            Check.made(3, 10, 0, 3, 2, 0, 1, 5, 0, 8, 0, 1, 0), 10, 0, 2);
    }

    private static void loops() {
        dueLive("to itself", Check.made(3, 9, 0, 0, 0, 8, 0, 1, 0), 0, 2);
        dueLive("round", Check.made(3, 8, 0, 1, 0, 0, 2, 5, 0, 9, 0, 0, 0), 2, 2, 2);
        dueLive("round, written", Check.made(3, 8, 0, 1, 0, 0, 1, 5, 0, 9, 0, 0, 0), 2, 0, 2);
    }

    /** Jumps backwards, one by one, so that what is read far before is live far behind. */
    private static void longWayRound() {
        StackCoder x = new StackCoder(3);
        x.add(8, 0, 9, 0);
        for (int k = 1; k < 40; k++) {
            x.add(9, 0, k - 1, 0);
        }
        for (int k = 0; k < 40; k++) {
            Check.due("backwards: live(" + k + ")", x.live(k), 512);
        }
        x.set(0, 9, 0, 39, 0);
        x.set(20, 8, 0, 4, 0);
        for (int k = 0; k < 40; k++) {
            Check.due("round and round: live(" + k + ")", x.live(k), 16);
        }
    }
}
