/** Promise 3: what addToken takes, what it refuses, and what each changes. */
public final class AddTokenTest {
    private static final int[] WRONG_KINDS = {0, -1, 12, 13, 256 + 7, Integer.MIN_VALUE, Integer.MAX_VALUE};

    private static void everyKindWithEveryArg() {
        int[] someArgs = {0, 1, 15, 16, -1, 100, Integer.MIN_VALUE, Integer.MAX_VALUE};
        for (int kind = 1; kind <= 11; kind++) {
            TwoPhaseUnwind x = new TwoPhaseUnwind(32, 1);
            for (int i = 0; i < someArgs.length; i++) {
                Due.isTrue("addToken(" + kind + ", " + someArgs[i] + ")", x.addToken(kind, someArgs[i]));
                Due.equal("getTokenCount()", x.getTokenCount(), i + 1);
                for (int j = 0; j <= i; j++) {
                    Due.equal("getTokenKind(" + j + ")", x.getTokenKind(j), kind);
                    Due.equal("getTokenArg(" + j + ")", x.getTokenArg(j), someArgs[j]);
                }
            }
        }
    }

    private static void dueAsRunBefore(String when, TwoPhaseUnwind x, int tokens, String outcome) {
        Due.equal(when + ": getTokenCount()", x.getTokenCount(), tokens);
        Due.isTrue(when + ": isCompiled()", x.isCompiled());
        Due.equal(when + ": getFunctionCount()", x.getFunctionCount(), 1);
        Due.isTrue(when + ": results stay", Program.outcome(x).equals(outcome));
        Due.equal(when + ": getTokenKind(0)", x.getTokenKind(0), TwoPhaseUnwind.T_FUNC);
        Due.equal(when + ": getTokenKind(next)", x.getTokenKind(tokens), 0);
    }

    private static void wrongKindChangesNothing() {
        TwoPhaseUnwind x = Program.ran(Program.BUSY, 1);
        String outcome = Program.outcome(x);
        int tokens = x.getTokenCount();
        for (int kind : WRONG_KINDS) {
            Due.isFalse("addToken(" + kind + ", 1)", x.addToken(kind, 1));
            dueAsRunBefore("after kind " + kind, x, tokens, outcome);
        }
        Due.isTrue("run(1) after refusals", x.run(1));
    }

    private static void fullChangesNothing() {
        TwoPhaseUnwind x = new TwoPhaseUnwind(9, 8);
        Program.add(x, "FUNC TRY THROWNZ:3 CATCH:3 MARK:7 FINALLY END THROWNZ:4 END");
        Due.equal("compile()", x.compile(), TwoPhaseUnwind.COMPILE_OK);
        Due.isTrue("run(1)", x.run(1));
        String outcome = Program.outcome(x);
        for (int kind = -1; kind <= 13; kind++) {
            Due.isFalse("addToken(" + kind + ", 1) when full", x.addToken(kind, 1));
            dueAsRunBefore("full, after kind " + kind, x, 9, outcome);
        }
    }

    private static void takenTokenDropsProgramAndResults() {
        TwoPhaseUnwind x = Program.ran(Program.BUSY, 1);
        int tokens = x.getTokenCount();
        Due.isTrue("addToken(T_FUNC, 77)", x.addToken(TwoPhaseUnwind.T_FUNC, 77));
        Due.equal("getTokenCount()", x.getTokenCount(), tokens + 1);
        Due.equal("getTokenArg(last)", x.getTokenArg(tokens), 77);
        Program.dueNotCompiled("after addToken", x);
        Program.dueCleared("after addToken", x);
        Due.isFalse("run(1) after addToken", x.run(1));
        Program.add(x, "END");
        Due.equal("compile()", x.compile(), TwoPhaseUnwind.COMPILE_OK);
        Due.equal("getFunctionCount()", x.getFunctionCount(), 2);
    }

    public static void main(String[] args) {
        everyKindWithEveryArg();
        wrongKindChangesNothing();
        fullChangesNothing();
        takenTokenDropsProgramAndResults();
        Due.finish();
    }
}
