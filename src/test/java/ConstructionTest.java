import java.util.function.Consumer;

/** Promise 1: the clamped capacities and the starting state, a test for each sentence. */
public final class ConstructionTest {
    private static final int MIN = Integer.MIN_VALUE;
    private static final int MAX = Integer.MAX_VALUE;
    /** The edges of both ranges, and ints that a narrower type would fold into them. */
    private static final int[] EDGES = {MIN, MIN + 1, -65528, -256, -8, -1, 0, 1, 2, 7, 8, 9, 31, 32, 33, 256 + 9,
        65536 + 20, MAX - 1, MAX};

    /** Fills the object from empty. */
    private static int tokensTaken(TwoPhaseUnwind x) {
        x.reset();
        int taken = 0;
        for (int i = 0; i < 100; i++) {
            taken += x.addToken(TwoPhaseUnwind.T_ADD, i) ? 1 : 0;
        }
        Due.equal("getTokenCount() when full", x.getTokenCount(), taken);
        return taken;
    }

    /** Needs room for twenty tokens, and runs sixty marks. */
    private static int marksKept(TwoPhaseUnwind x) {
        x.reset();
        Program.add(x, Program.MARKS_60);
        Due.equal("compile()", x.compile(), TwoPhaseUnwind.COMPILE_OK);
        Due.isTrue("run(0)", x.run(0));
        return x.getTraceLength();
    }

    private static void dueTokens(int maxTokens, int want) {
        for (int traceCapacity : new int[] {MIN, 1, 20, MAX}) {
            TwoPhaseUnwind x = new TwoPhaseUnwind(maxTokens, traceCapacity);
            Due.equal("tokens taken by (" + maxTokens + ", " + traceCapacity + ")", tokensTaken(x), want);
        }
    }

    private static void dueMarks(int traceCapacity, int want) {
        for (int maxTokens : new int[] {20, 32, 33, MAX}) {
            TwoPhaseUnwind x = new TwoPhaseUnwind(maxTokens, traceCapacity);
            Due.equal("marks kept by (" + maxTokens + ", " + traceCapacity + ")", marksKept(x), want);
        }
    }

    private static void anyInts() {
        for (int maxTokens : EDGES) {
            for (int traceCapacity : EDGES) {
                TwoPhaseUnwind x = new TwoPhaseUnwind(maxTokens, traceCapacity);
                String made = "(" + maxTokens + ", " + traceCapacity + ")";
                Program.add(x, "FUNC MARK:1 MARK:2 MARK:3 MARK:4 MARK:5 MARK:6 END");
                Due.equal("compile() of " + made, x.compile(), TwoPhaseUnwind.COMPILE_OK);
                Due.isTrue("run(0) of " + made, x.run(0));
                Due.equal("marks kept by " + made, x.getTraceLength(), Math.max(1, Math.min(traceCapacity, 6)));
                Due.equal("tokens taken by " + made, tokensTaken(x), Math.max(8, Math.min(maxTokens, 32)));
            }
        }
    }

    private static void fewerTokens() {
        for (int given : new int[] {MIN, MIN + 1, -65536 + 20, -256 + 20, -20, -8, -1, 0, 1, 6, 7}) {
            dueTokens(given, 8);
        }
    }

    private static void moreTokens() {
        for (int given : new int[] {33, 34, 64, 256 + 9, 65536 + 9, MAX - 1, MAX}) {
            dueTokens(given, 32);
        }
    }

    private static void tokensInBetween() {
        for (int given = 8; given <= 32; given++) {
            dueTokens(given, given);
        }
    }

    private static void fewerMarks() {
        for (int given : new int[] {MIN, MIN + 1, -65536 + 20, -256 + 20, -20, -1, 0}) {
            dueMarks(given, 1);
        }
    }

    private static void moreMarks() {
        for (int given : new int[] {33, 34, 64, 256 + 9, 65536 + 9, MAX - 1, MAX}) {
            dueMarks(given, 32);
        }
    }

    private static void marksInBetween() {
        for (int given = 1; given <= 32; given++) {
            dueMarks(given, given);
        }
    }

    /** Every kind of call, taken and refused, on an object with room for twenty tokens. */
    private static void live(TwoPhaseUnwind x) {
        x.compile();
        x.run(1);
        x.addToken(0, 0);
        x.reset();
        Program.add(x, Program.BUSY);
        x.run(1);
        x.compile();
        x.run(1);
        x.addToken(12, MAX);
        x.addToken(TwoPhaseUnwind.T_RETHROW, 0);
        x.compile();
        x.run(1);
    }

    private static void wholeLife() {
        int[][] capacities = {{20, 1}, {20, 32}, {25, 17}, {31, 2}, {32, 31}, {MAX, MAX}, {33, MIN}};
        for (int[] c : capacities) {
            TwoPhaseUnwind x = new TwoPhaseUnwind(c[0], c[1]);
            for (int round = 0; round < 3; round++) {
                Due.equal("tokens taken in round " + round, tokensTaken(x), Math.min(c[0], 32));
                Due.equal("marks kept in round " + round, marksKept(x), Math.max(1, Math.min(c[1], 32)));
                live(x);
            }
        }
        TwoPhaseUnwind smallest = new TwoPhaseUnwind(MIN, MIN);
        for (int round = 0; round < 3; round++) {
            Due.equal("tokens taken by the smallest in round " + round, tokensTaken(smallest), 8);
            smallest.compile();
            smallest.run(1);
        }
    }

    private static void atTheStart(Consumer<TwoPhaseUnwind> test) {
        for (int maxTokens : EDGES) {
            for (int traceCapacity : EDGES) {
                test.accept(new TwoPhaseUnwind(maxTokens, traceCapacity));
            }
        }
    }

    private static void noTokens(TwoPhaseUnwind x) {
        Due.equal("new: getTokenCount()", x.getTokenCount(), 0);
        for (int i = -2; i < 34; i++) {
            Due.equal("new: getTokenKind(" + i + ")", x.getTokenKind(i), 0);
            Due.equal("new: getTokenArg(" + i + ")", x.getTokenArg(i), 0);
        }
    }

    private static void noTrace(TwoPhaseUnwind x) {
        Due.equal("new: getTraceLength()", x.getTraceLength(), 0);
        for (int i = -2; i < 34; i++) {
            Due.equal("new: getTrace(" + i + ")", x.getTrace(i), 0);
        }
    }

    private static void objectsAreApart() {
        TwoPhaseUnwind x = Program.ran(Program.BUSY, 1);
        String before = States.seen(x);
        TwoPhaseUnwind y = new TwoPhaseUnwind(8, 1);
        noTokens(y);
        Program.dueNotCompiled("another object", y);
        Program.dueCleared("another object", y);
        Due.isTrue("y.addToken", y.addToken(TwoPhaseUnwind.T_MARK, 99));
        y.compile();
        Due.same("the first object", States.seen(x), before);
    }

    public static void main(String[] args) {
        Due.sentence("accepts any int values", ConstructionTest::anyInts);
        Due.sentence("maxTokens: a value below 8 becomes 8", ConstructionTest::fewerTokens);
        Due.sentence("maxTokens: a value above 32 becomes 32", ConstructionTest::moreTokens);
        Due.sentence("maxTokens: values in between stay as given", ConstructionTest::tokensInBetween);
        Due.sentence("traceCapacity: below 1 becomes 1", ConstructionTest::fewerMarks);
        Due.sentence("traceCapacity: above 32 becomes 32", ConstructionTest::moreMarks);
        Due.sentence("traceCapacity: clamped into 1..32 the same way", ConstructionTest::marksInBetween);
        Due.sentence("The clamped values hold for the whole life of the object", ConstructionTest::wholeLife);
        Due.sentence("At the start the object holds no tokens (getTokenCount() is 0)",
                () -> atTheStart(ConstructionTest::noTokens));
        Due.sentence("At the start the object is not compiled (isCompiled() is false)",
                () -> atTheStart(x -> Due.isFalse("new: isCompiled()", x.isCompiled())));
        Due.sentence("At the start the function count is 0",
                () -> atTheStart(x -> Due.equal("new: getFunctionCount()", x.getFunctionCount(), 0)));
        Due.sentence("At the start getStatus() is STATUS_NONE",
                () -> atTheStart(x -> Due.equal("new: getStatus()", x.getStatus(), TwoPhaseUnwind.STATUS_NONE)));
        Due.sentence("At the start getResult() is 0",
                () -> atTheStart(x -> Due.equal("new: getResult()", x.getResult(), 0)));
        Due.sentence("At the start getUncaughtType() is 0",
                () -> atTheStart(x -> Due.equal("new: getUncaughtType()", x.getUncaughtType(), 0)));
        Due.sentence("At the start getTraceLength() is 0", () -> atTheStart(ConstructionTest::noTrace));
        Due.sentence("At the start getCatchRuns() is 0",
                () -> atTheStart(x -> Due.equal("new: getCatchRuns()", x.getCatchRuns(), 0)));
        Due.sentence("At the start getFinallyRuns() is 0",
                () -> atTheStart(x -> Due.equal("new: getFinallyRuns()", x.getFinallyRuns(), 0)));
        Due.sentence("each object has tokens and results of its own", ConstructionTest::objectsAreApart);
        Due.finish();
    }
}
