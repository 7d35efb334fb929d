/** Promise 9: the trace keeps the first marks, in the order they ran. */
public final class TraceTest {
    private static void due(String when, TwoPhaseUnwind x, int... want) {
        Due.equal(when + ": getTraceLength()", x.getTraceLength(), want.length);
        for (int i = 0; i < want.length; i++) {
            Due.equal(when + ": getTrace(" + i + ")", x.getTrace(i), want[i]);
        }
        int[] outside = {-1, -2, -33, Integer.MIN_VALUE, 32, 33, Integer.MAX_VALUE};
        for (int i : outside) {
            Due.equal(when + ": getTrace(" + i + ")", x.getTrace(i), 0);
        }
        for (int i = want.length; i < 34; i++) {
            Due.equal(when + ": getTrace(" + i + ")", x.getTrace(i), 0);
        }
    }

    private static TwoPhaseUnwind withCapacity(int capacity, String text) {
        TwoPhaseUnwind x = new TwoPhaseUnwind(32, capacity);
        Program.add(x, text);
        Due.equal("compile of [" + text + "]", x.compile(), TwoPhaseUnwind.COMPILE_OK);
        return x;
    }

    private static void firstMarksStay() {
        String text = "FUNC MARK:11 MARK:12 MARK:13 MARK:14 END";
        int[] all = {11, 12, 13, 14};
        for (int capacity = 0; capacity <= 6; capacity++) {
            TwoPhaseUnwind x = withCapacity(capacity, text);
            x.run(0);
            int kept = Math.min(Math.max(capacity, 1), 4);
            due("capacity " + capacity, x, java.util.Arrays.copyOf(all, kept));
        }
    }

    private static void valuesAsGiven() {
        TwoPhaseUnwind x = withCapacity(32, "FUNC MARK:0 MARK:-1 MARK:2147483647 MARK:-2147483648 MARK:0 END");
        x.run(7);
        due("any value", x, 0, -1, Integer.MAX_VALUE, Integer.MIN_VALUE, 0);
    }

    private static void executedTwiceCountsTwice() {
        TwoPhaseUnwind x = withCapacity(5, "FUNC CALL:1 MARK:1 CALL:1 MARK:2 CALL:1 END FUNC MARK:3 END");
        x.run(0);
        due("called thrice", x, 3, 1, 3, 2, 3);
        TwoPhaseUnwind y = withCapacity(4, "FUNC CALL:1 MARK:1 CALL:1 MARK:2 CALL:1 END FUNC MARK:3 END");
        y.run(0);
        due("called thrice, the last dropped", y, 3, 1, 3, 2);
    }

    private static void newRunNewTrace() {
        TwoPhaseUnwind x = withCapacity(8, "FUNC MARK:1 THROWNZ:1 MARK:2 MARK:3 END");
        due("before a run", x);
        x.run(0);
        due("run(0)", x, 1, 2, 3);
        x.run(1);
        due("run(1)", x, 1);
        x.compile();
        due("after compile", x);
        x.run(0);
        x.addToken(0, 0);
        due("after a refused token", x, 1, 2, 3);
        Program.add(x, "FUNC");
        due("after a taken token", x);
        x.reset();
        due("after reset", x);
    }

    private static void fullLength() {
        TwoPhaseUnwind x = withCapacity(32, "FUNC CALL:1 CALL:1 CALL:1 CALL:1 CALL:1 END FUNC MARK:1 MARK:2 MARK:3"
                + " MARK:4 MARK:5 MARK:6 MARK:7 END");
        x.run(0);
        int[] want = new int[32];
        for (int i = 0; i < 32; i++) {
            want[i] = i % 7 + 1;
        }
        due("35 marks", x, want);
    }

    public static void main(String[] args) {
        firstMarksStay();
        valuesAsGiven();
        executedTwiceCountsTwice();
        newRunNewTrace();
        fullLength();
        Due.finish();
    }
}
