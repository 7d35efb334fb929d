/** Promise 2: reset empties the object in any state and keeps the capacities. */
public final class ResetTest {
    private static void dueEmpty(String when, TwoPhaseUnwind x) {
        Due.equal(when + ": getTokenCount()", x.getTokenCount(), 0);
        Due.equal(when + ": getTokenKind(0)", x.getTokenKind(0), 0);
        Due.equal(when + ": getTokenArg(0)", x.getTokenArg(0), 0);
        Program.dueNotCompiled(when, x);
        Program.dueCleared(when, x);
        Due.isFalse(when + ": run(1)", x.run(1));
        Due.equal(when + ": compile()", x.compile(), 0);
    }

    private static void everyState() {
        TwoPhaseUnwind fresh = new TwoPhaseUnwind(32, 32);
        fresh.reset();
        dueEmpty("reset of a new object", fresh);

        TwoPhaseUnwind withTokens = Program.of(Program.BUSY);
        withTokens.reset();
        dueEmpty("reset before compile", withTokens);

        TwoPhaseUnwind refused = Program.of("FUNC RETHROW");
        Due.equal("compile()", refused.compile(), 1);
        refused.reset();
        dueEmpty("reset after a refused compile", refused);

        TwoPhaseUnwind compiled = Program.compiled(Program.BUSY);
        compiled.reset();
        dueEmpty("reset after compile", compiled);

        TwoPhaseUnwind ran = Program.ran(Program.BUSY, 1);
        ran.reset();
        dueEmpty("reset after a run", ran);
        ran.reset();
        dueEmpty("a second reset", ran);
    }

    private static void capacitiesStay() {
        TwoPhaseUnwind x = new TwoPhaseUnwind(9, 2);
        for (int round = 0; round < 3; round++) {
            Program.add(x, "FUNC MARK:1 MARK:2 MARK:3 MARK:4 MARK:5 MARK:6 MARK:7 END");
            Due.isFalse("a tenth token", x.addToken(TwoPhaseUnwind.T_FUNC, 0));
            Due.equal("compile()", x.compile(), TwoPhaseUnwind.COMPILE_OK);
            Due.isTrue("run(0)", x.run(0));
            Due.equal("getTraceLength()", x.getTraceLength(), 2);
            x.reset();
        }
    }

    private static void nothingOfTheOldProgramStays() {
        TwoPhaseUnwind x = Program.ran("FUNC TRY CALL:1 CATCH:0 MARK:1 FINALLY MARK:2 END END FUNC THROW:5 END", 0);
        x.reset();
        Program.add(x, "FUNC TRY MARK:8 FINALLY THROW:6 END END");
        Due.equal("compile() after reset", x.compile(), TwoPhaseUnwind.COMPILE_OK);
        Due.equal("getFunctionCount() after reset", x.getFunctionCount(), 1);
        Due.isTrue("run(0) after reset", x.run(0));
        Due.equal("getUncaughtType()", x.getUncaughtType(), 6);
        Due.equal("getTraceLength()", x.getTraceLength(), 1);
        Due.equal("getTrace(0)", x.getTrace(0), 8);
    }

    private static void nothingOfTheOldClausesStays() {
        TwoPhaseUnwind x = Program.ran("FUNC TRY THROW:1 CATCH:1 END END", 0);
        x.reset();
        // A MARK stands where the CATCH stood.
        Program.add(x, "FUNC TRY ADD:1 MARK:0 THROW:1 CATCH:2 END END");
        Due.equal("compile() after reset", x.compile(), TwoPhaseUnwind.COMPILE_OK);
        Due.isTrue("run(0) after reset", x.run(0));
        Due.equal("getUncaughtType()", x.getUncaughtType(), 1);
        Due.equal("getCatchRuns()", x.getCatchRuns(), 0);
    }

    private static void nothingOfARefusedCompileStays() {
        TwoPhaseUnwind x = Program.of("FUNC CALL:3 TRY CATCH:1 TRY");
        Due.equal("compile() of open tries", x.compile(), 5);
        x.reset();
        Program.add(x, "FUNC END");
        Due.equal("compile() after reset", x.compile(), TwoPhaseUnwind.COMPILE_OK);
        x.reset();
        Program.add(x, "FUNC RETHROW");
        Due.equal("compile() of a RETHROW outside", x.compile(), 1);
    }

    public static void main(String[] args) {
        everyState();
        capacitiesStay();
        nothingOfTheOldProgramStays();
        nothingOfTheOldClausesStays();
        nothingOfARefusedCompileStays();
        Due.finish();
    }
}
