/** Promise 9: the trace keeps the first marks, in the order they ran, a test for each sentence. */
public final class TraceTest {
    private static final int MIN = Integer.MIN_VALUE;
    private static final int MAX = Integer.MAX_VALUE;

    /** The trace is just these values, and 0 at every other index. */
    private static void due(String when, TwoPhaseUnwind x, int... want) {
        Due.equal(when + ": getTraceLength()", x.getTraceLength(), want.length);
        for (int i = 0; i < want.length; i++) {
            Due.equal(when + ": getTrace(" + i + ")", x.getTrace(i), want[i]);
        }
        for (int i = want.length; i < 70; i++) {
            Due.equal(when + ": getTrace(" + i + ")", x.getTrace(i), 0);
        }
        for (int i : States.OUTSIDE) {
            Due.equal(when + ": getTrace(" + i + ")", x.getTrace(i), 0);
        }
    }

    private static TwoPhaseUnwind ran(int capacity, String text, int input) {
        TwoPhaseUnwind x = Program.add(new TwoPhaseUnwind(32, capacity), text);
        Due.equal("compile of [" + text + "]", x.compile(), TwoPhaseUnwind.COMPILE_OK);
        Due.isTrue("run of [" + text + "]", x.run(input));
        return x;
    }

    /** Marks 1 to n one after another, n at most 30. */
    private static String marks(int n) {
        StringBuilder text = new StringBuilder("FUNC");
        for (int i = 1; i <= n; i++) {
            text.append(" MARK:").append(i);
        }
        return text + " END";
    }

    private static void fewerMarksThanRoom() {
        for (int capacity = 1; capacity <= 32; capacity++) {
            for (int n = 0; n <= Math.min(capacity, 30); n++) {
                Due.equal(n + " marks, capacity " + capacity, ran(capacity, marks(n), 0).getTraceLength(), n);
            }
        }
    }

    private static void fullTrace() {
        for (int capacity = 1; capacity <= 32; capacity++) {
            for (int n = capacity; n <= 30; n++) {
                Due.equal(n + " marks, capacity " + capacity, ran(capacity, marks(n), 0).getTraceLength(), capacity);
            }
            Due.equal("60 marks", ran(capacity, Program.MARKS_60, 0).getTraceLength(), capacity);
        }
    }

    /** Thirty-two marks run as two calls of a function with sixteen, and one more or less. */
    private static void aroundTheLargestCapacity() {
        String function = " END " + marks(16);
        due("31 marks", ran(32, "FUNC CALL:1 END FUNC CALL:2 MARK:20 CALL:2 END " + marks(15), 0), afterCalls(15, 20));
        due("32 marks", ran(32, "FUNC CALL:1 CALL:1" + function, 0), afterCalls(16));
        due("33 marks", ran(32, "FUNC CALL:1 CALL:1 MARK:99" + function, 0), afterCalls(16));
    }

    /** Marks 1 to n, those in between, and 1 to n again. */
    private static int[] afterCalls(int n, int... between) {
        int[] values = new int[2 * n + between.length];
        for (int i = 0; i < n; i++) {
            values[i] = i + 1;
            values[n + between.length + i] = i + 1;
        }
        System.arraycopy(between, 0, values, n, between.length);
        return values;
    }

    private static void laterMarksDropped() {
        for (int capacity = 1; capacity <= 32; capacity++) {
            int[] want = new int[capacity];
            for (int i = 0; i < capacity; i++) {
                want[i] = i % 10 + 1;
            }
            due("60 marks, capacity " + capacity, ran(capacity, Program.MARKS_60, 0), want);
        }
        // What follows a dropped mark runs on as ever.
        TwoPhaseUnwind x = ran(2, "FUNC MARK:1 TRY MARK:2 MARK:3 ADD:1 THROW:4 CATCH:4 MARK:5 ADD:1 FINALLY MARK:6"
                + " ADD:1 END MARK:7 ADD:1 THROW:9 END", 0);
        due("dropped in each body", x, 1, 2);
        Due.same("dropped in each body", Program.outcome(x), "UNCAUGHT type=9 acc=4 trace=[1 2] catches=1 finallys=1");
    }

    private static void executedTwice() {
        String text = "FUNC CALL:1 MARK:1 CALL:1 MARK:2 CALL:1 END FUNC MARK:3 END";
        due("called thrice", ran(5, text, 0), 3, 1, 3, 2, 3);
        due("called thrice, the last dropped", ran(4, text, 0), 3, 1, 3, 2);
        due("called thrice, one kept", ran(1, text, 0), 3);
        due("the same value twice", ran(8, "FUNC MARK:4 MARK:4 MARK:4 END", 0), 4, 4, 4);
        due("twice after a throw", ran(8, "FUNC TRY CALL:1 CATCH:0 CALL:1 END END FUNC MARK:6 THROWNZ:1 END", 1), 6, 6);
    }

    private static void onlyExecuted() {
        due("a body that doesn't run", ran(8, "FUNC TRY MARK:1 CATCH:0 MARK:2 END END FUNC MARK:3 END", 0), 1);
        due("no mark", ran(8, "FUNC ADD:1 END", 0));
        due("none before the throw", ran(8, "FUNC THROW:1 MARK:1 END", 0));
    }

    private static void lengthWhenCleared() {
        for (States.State state : States.cleared()) {
            due(state.name(), state.x());
        }
    }

    private static void inExecutionOrder() {
        due("in every body", ran(32, "FUNC MARK:1 TRY MARK:2 CALL:1 CATCH:3 MARK:5 FINALLY MARK:6 END MARK:7 END"
                + " FUNC TRY MARK:3 THROW:3 FINALLY MARK:4 END END", 0), 1, 2, 3, 4, 5, 6, 7);
        due("functions", ran(32, "FUNC CALL:2 CALL:1 END FUNC MARK:1 END FUNC MARK:2 END", 0), 2, 1);
    }

    private static void anyValue() {
        due("any value", ran(32, "FUNC MARK:0 MARK:-1 MARK:2147483647 MARK:-2147483648 MARK:256 MARK:65536 MARK:0 END",
                7), 0, -1, MAX, MIN, 256, 65536, 0);
    }

    private static void outside() {
        for (int n = 0; n <= 30; n++) {
            TwoPhaseUnwind x = ran(32, marks(n), 0);
            for (int i = n; i < 70; i++) {
                Due.equal("getTrace(" + i + ") of " + n, x.getTrace(i), 0);
            }
            for (int i = -70; i < 0; i++) {
                Due.equal("getTrace(" + i + ") of " + n, x.getTrace(i), 0);
            }
            for (int i : States.OUTSIDE) {
                Due.equal("getTrace(" + i + ") of " + n, x.getTrace(i), 0);
            }
        }
        // At the capacity of a full trace.
        due("full", ran(3, Program.MARKS_60, 0), 1, 2, 3);
    }

    private static void ofTheLastRun() {
        TwoPhaseUnwind x = ran(8, "FUNC MARK:1 THROWNZ:1 MARK:2 MARK:3 END", 0);
        due("run(0)", x, 1, 2, 3);
        x.run(1);
        due("run(1)", x, 1);
        x.run(0);
        due("run(0) again", x, 1, 2, 3);
        x.addToken(0, 0);
        due("after a refused token", x, 1, 2, 3);
        x.compile();
        due("after compile", x);
    }

    public static void main(String[] args) {
        Due.sentence("the smaller of traceCapacity and the number of MARK executions: fewer marks",
                TraceTest::fewerMarksThanRoom);
        Due.sentence("the smaller of traceCapacity and the number of MARK executions: a full trace",
                TraceTest::fullTrace);
        Due.sentence("the number of MARK values kept in the trace, 0..traceCapacity",
                TraceTest::aroundTheLargestCapacity);
        Due.sentence("The trace keeps the first traceCapacity MARK values; later MARKs are dropped",
                TraceTest::laterMarksDropped);
        Due.sentence("a token executed twice counts twice", TraceTest::executedTwice);
        Due.sentence("MARK executions in the last run, not MARK tokens", TraceTest::onlyExecuted);
        Due.sentence("it is 0 when the results are cleared", TraceTest::lengthWhenCleared);
        Due.sentence("answers trace value i, in execution order", TraceTest::inExecutionOrder);
        Due.sentence("MARK n: append n to the trace, whatever its value", TraceTest::anyValue);
        Due.sentence("if 0 <= i < getTraceLength(), and 0 otherwise", TraceTest::outside);
        Due.sentence("of the last run", TraceTest::ofTheLastRun);
        Due.sentence("getTraceLength changes nothing",
                () -> States.dueChangesNothing(TwoPhaseUnwind::getTraceLength));
        Due.sentence("getTrace changes nothing",
                () -> States.dueChangesNothing(x -> States.atEveryIndex(x::getTrace)));
        Due.finish();
    }
}
