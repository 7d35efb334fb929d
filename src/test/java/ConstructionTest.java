/** Promise 1: the clamped capacities and the starting state. */
public final class ConstructionTest {
    private static int tokensTaken(int maxTokens) {
        TwoPhaseUnwind x = new TwoPhaseUnwind(maxTokens, 4);
        int taken = 0;
        for (int i = 0; i < 100; i++) {
            if (x.addToken(TwoPhaseUnwind.T_ADD, i)) {
                taken++;
            }
        }
        Due.equal("getTokenCount() with maxTokens " + maxTokens, x.getTokenCount(), taken);
        return taken;
    }

    /** Runs far more than 32 marks: function 0 calls function 1 six times, which has ten. */
    private static int marksKept(int traceCapacity) {
        TwoPhaseUnwind x = new TwoPhaseUnwind(32, traceCapacity);
        Program.add(x, "FUNC CALL:1 CALL:1 CALL:1 CALL:1 CALL:1 CALL:1 END");
        Program.add(x, "FUNC MARK:1 MARK:2 MARK:3 MARK:4 MARK:5 MARK:6 MARK:7 MARK:8 MARK:9 MARK:10 END");
        Due.equal("compile()", x.compile(), TwoPhaseUnwind.COMPILE_OK);
        Due.isTrue("run(0)", x.run(0));
        return x.getTraceLength();
    }

    private static void clamping() {
        int[] given = {Integer.MIN_VALUE, -1, 0, 1, 2, 7, 8, 9, 20, 31, 32, 33, 1000, Integer.MAX_VALUE};
        int[] tokens = {8, 8, 8, 8, 8, 8, 8, 9, 20, 31, 32, 32, 32, 32};
        int[] marks = {1, 1, 1, 1, 2, 7, 8, 9, 20, 31, 32, 32, 32, 32};
        for (int i = 0; i < given.length; i++) {
            Due.equal("tokens taken with maxTokens " + given[i], tokensTaken(given[i]), tokens[i]);
            Due.equal("marks kept with traceCapacity " + given[i], marksKept(given[i]), marks[i]);
        }
    }

    private static void startingState() {
        int[] given = {Integer.MIN_VALUE, 0, 16, Integer.MAX_VALUE};
        for (int capacity : given) {
            TwoPhaseUnwind x = new TwoPhaseUnwind(capacity, capacity);
            Due.equal("new: getTokenCount()", x.getTokenCount(), 0);
            Due.equal("new: getTokenKind(0)", x.getTokenKind(0), 0);
            Due.equal("new: getTokenArg(0)", x.getTokenArg(0), 0);
            Program.dueNotCompiled("new", x);
            Program.dueCleared("new", x);
        }
    }

    private static void objectsAreApart() {
        TwoPhaseUnwind x = Program.ran(Program.BUSY, 1);
        TwoPhaseUnwind y = new TwoPhaseUnwind(8, 1);
        Due.equal("another object: getTokenCount()", y.getTokenCount(), 0);
        Program.dueCleared("another object", y);
        Due.isTrue("y.addToken", y.addToken(TwoPhaseUnwind.T_MARK, 99));
        Due.equal("x.getTokenKind(0)", x.getTokenKind(0), TwoPhaseUnwind.T_FUNC);
        Due.isTrue("x.isCompiled()", x.isCompiled());
    }

    public static void main(String[] args) {
        clamping();
        startingState();
        objectsAreApart();
        Due.finish();
    }
}
