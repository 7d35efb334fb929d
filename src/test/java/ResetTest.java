import java.util.function.Consumer;

/** Promise 2: reset empties the object in any state and keeps the capacities. */
public final class ResetTest {
    private static void inAnyState(Consumer<States.State> test) {
        for (States.State state : States.all()) {
            state.x().reset();
            test.accept(state);
        }
    }

    private static void noTokens(States.State state) {
        TwoPhaseUnwind x = state.x();
        Due.equal(state.name() + ", reset: getTokenCount()", x.getTokenCount(), 0);
        for (int i = 0; i < 34; i++) {
            Due.equal(state.name() + ", reset: getTokenKind(" + i + ")", x.getTokenKind(i), 0);
            Due.equal(state.name() + ", reset: getTokenArg(" + i + ")", x.getTokenArg(i), 0);
        }
        Due.equal(state.name() + ", reset: compile()", x.compile(), 0);
    }

    private static void notCompiled(States.State state) {
        Program.dueNotCompiled(state.name() + ", reset", state.x());
        Due.isFalse(state.name() + ", reset: run(1)", state.x().run(1));
    }

    private static void cleared(States.State state) {
        Program.dueCleared(state.name() + ", reset", state.x());
    }

    private static void sameCapacity(States.State state) {
        int taken = 0;
        while (taken < 100 && state.x().addToken(TwoPhaseUnwind.T_ADD, 1)) {
            taken++;
        }
        Due.equal(state.name() + ", reset: tokens taken", taken, state.maxTokens());
    }

    private static void sameTraceCapacity(States.State state) {
        TwoPhaseUnwind x = state.x();
        boolean large = state.maxTokens() >= 20;
        Program.add(x, large ? Program.MARKS_60 : "FUNC MARK:1 MARK:2 MARK:3 MARK:4 MARK:5 MARK:6 END");
        Due.equal(state.name() + ", reset: compile()", x.compile(), TwoPhaseUnwind.COMPILE_OK);
        Due.isTrue(state.name() + ", reset: run(0)", x.run(0));
        Due.equal(state.name() + ", reset: getTraceLength()", x.getTraceLength(),
                Math.min(state.traceCapacity(), large ? 60 : 6));
    }

    private static void asNew(States.State state) {
        TwoPhaseUnwind fresh = new TwoPhaseUnwind(state.maxTokens(), state.traceCapacity());
        Due.same(state.name() + ", reset: all answers", States.future(state.x()), States.future(fresh));
    }

    private static void again(States.State state) {
        state.x().reset();
        state.x().reset();
        asNew(state);
    }

    private static void nothingOfTheOldProgramStays() {
        TwoPhaseUnwind x = Program.ran("FUNC TRY CALL:1 CATCH:0 MARK:1 FINALLY MARK:2 END END FUNC THROW:5 END", 0);
        x.reset();
        Program.add(x, "FUNC TRY MARK:8 FINALLY THROW:6 END END");
        Due.equal("compile() after reset", x.compile(), TwoPhaseUnwind.COMPILE_OK);
        Due.equal("getFunctionCount() after reset", x.getFunctionCount(), 1);
        Due.isTrue("run(0) after reset", x.run(0));
        Due.same("after reset", Program.outcome(x), "UNCAUGHT type=6 acc=0 trace=[8] catches=0 finallys=1");
        TwoPhaseUnwind y = Program.ran("FUNC TRY THROW:1 CATCH:1 END END", 0);
        y.reset();
        // A MARK stands where the CATCH stood.
        Program.add(y, "FUNC TRY ADD:1 MARK:0 THROW:1 CATCH:2 END END");
        Due.equal("compile() after reset", y.compile(), TwoPhaseUnwind.COMPILE_OK);
        Due.isTrue("run(0) after reset", y.run(0));
        Due.same("after reset", Program.outcome(y), "UNCAUGHT type=1 acc=1 trace=[0] catches=0 finallys=0");
    }

    private static void nothingOfARefusedCompileStays() {
        TwoPhaseUnwind x = Program.of("FUNC CALL:3 TRY CATCH:1 TRY");
        Due.equal("compile() of open tries", x.compile(), 5);
        x.reset();
        Program.add(x, "FUNC END");
        Due.equal("compile() after reset", x.compile(), TwoPhaseUnwind.COMPILE_OK);
        x.reset();
        Program.add(x, "FUNC RETHROW");
        Due.equal("compile() of a RETHROW outside", x.compile(), 1);
    }

    /** That it answers nothing is a matter of its type, which PublicFaceTest looks at. */
    public static void main(String[] args) {
        Due.sentence("removes all tokens, so getTokenCount() becomes 0", () -> inAnyState(ResetTest::noTokens));
        Due.sentence("sets not compiled and function count 0", () -> inAnyState(ResetTest::notCompiled));
        Due.sentence("clears the results", () -> inAnyState(ResetTest::cleared));
        Due.sentence("The clamped maxTokens stays as it was", () -> inAnyState(ResetTest::sameCapacity));
        Due.sentence("The clamped traceCapacity stays as it was", () -> inAnyState(ResetTest::sameTraceCapacity));
        Due.sentence("does the following, in any state", () -> inAnyState(ResetTest::asNew));
        Due.sentence("in any state, also after a reset", () -> inAnyState(ResetTest::again));
        Due.sentence("in any state: a program after the reset", ResetTest::nothingOfTheOldProgramStays);
        Due.sentence("in any state: after a refused compile", ResetTest::nothingOfARefusedCompileStays);
        Due.finish();
    }
}
