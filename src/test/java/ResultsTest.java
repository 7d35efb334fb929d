/** Promise 8: getStatus, getResult and getUncaughtType, a test for each sentence. */
public final class ResultsTest {
    private static final int MIN = Integer.MIN_VALUE;
    private static final int MAX = Integer.MAX_VALUE;

    private static void dueStatus(String text, int input, int want) {
        Due.equal("getStatus() after run(" + input + ") of [" + text + "]", Program.ran(text, input).getStatus(), want);
    }

    private static void dueResult(String text, int input, int want) {
        Due.equal("getResult() after run(" + input + ") of [" + text + "]", Program.ran(text, input).getResult(), want);
    }

    private static void dueType(String text, int input, int want) {
        Due.equal("getUncaughtType() after run(" + input + ") of [" + text + "]",
                Program.ran(text, input).getUncaughtType(), want);
    }

    private static void statusOfTheLastRun() {
        dueStatus("FUNC END", 0, TwoPhaseUnwind.STATUS_NORMAL);
        dueStatus("FUNC TRY THROW:9 CATCH:9 END END", 0, TwoPhaseUnwind.STATUS_NORMAL);
        dueStatus("FUNC THROW:9 END", 0, TwoPhaseUnwind.STATUS_UNCAUGHT);
        dueStatus("FUNC TRY THROW:9 CATCH:9 RETHROW END END", 0, TwoPhaseUnwind.STATUS_UNCAUGHT);
        TwoPhaseUnwind x = Program.compiled("FUNC THROWNZ:1 END");
        for (int input : new int[] {0, 1, 0, 0, -1, -1, 0}) {
            x.run(input);
            Due.equal("getStatus() after run(" + input + ")", x.getStatus(),
                    input == 0 ? TwoPhaseUnwind.STATUS_NORMAL : TwoPhaseUnwind.STATUS_UNCAUGHT);
        }
    }

    private static void statusWhenCleared() {
        for (States.State state : States.cleared()) {
            Due.equal(state.name() + ": getStatus()", state.x().getStatus(), TwoPhaseUnwind.STATUS_NONE);
        }
    }

    private static void resultOfTheLastRun() {
        for (int input : new int[] {0, 1, -1, 255, 256, 65536, MIN, MIN + 1, MAX - 1, MAX}) {
            dueResult("FUNC END", input, input);
            dueResult("FUNC THROW:1 END", input, input);
            dueResult("FUNC ADD:1 END", input, input + 1);
        }
        dueResult("FUNC TRY ADD:1 THROW:9 CATCH:9 ADD:10 FINALLY ADD:100 END ADD:1000 END", 5, 1116);
        TwoPhaseUnwind x = Program.compiled("FUNC ADD:2 THROWNZ:15 ADD:40 END");
        int[] inputs = {5, -2, MAX, -2, 5};
        int[] results = {7, 40, MIN + 1, 40, 7};
        for (int i = 0; i < inputs.length; i++) {
            x.run(inputs[i]);
            Due.equal("getResult() after run(" + inputs[i] + ")", x.getResult(), results[i]);
        }
    }

    private static void resultOfAnUncaughtRun() {
        dueResult("FUNC TRY CALL:1 FINALLY ADD:100 END ADD:1000 END FUNC ADD:1 THROW:2 END", 5, 6);
        dueResult("FUNC TRY THROW:1 CATCH:1 ADD:10 THROW:2 FINALLY ADD:100 END END", 5, 15);
    }

    private static void resultWhenNone() {
        for (States.State state : States.cleared()) {
            Due.equal(state.name() + ": getResult()", state.x().getResult(), 0);
        }
    }

    private static void uncaughtTypes() {
        for (int t = 1; t <= 15; t++) {
            dueType("FUNC THROW:" + t + " END", 0, t);
            dueType("FUNC THROWNZ:" + t + " END", 1, t);
            dueType("FUNC TRY THROW:" + t + " CATCH:0 RETHROW END END", 1, t);
        }
        dueType("FUNC TRY THROW:1 CATCH:1 THROW:15 END END", 0, 15);
    }

    private static void noTypeWhenNormal() {
        for (int t = 1; t <= 15; t++) {
            dueType("FUNC TRY THROW:" + t + " CATCH:" + t + " END END", 0, 0);
            dueType("FUNC THROWNZ:" + t + " END", 0, 0);
        }
        TwoPhaseUnwind x = Program.ran("FUNC THROWNZ:7 END", 1);
        Due.equal("getUncaughtType() after run(1)", x.getUncaughtType(), 7);
        x.run(0);
        Due.equal("getUncaughtType() after run(0)", x.getUncaughtType(), 0);
    }

    private static void noTypeWhenNone() {
        for (States.State state : States.cleared()) {
            Due.equal(state.name() + ": getUncaughtType()", state.x().getUncaughtType(), 0);
        }
    }

    private static void refusedTokenClearsNothing() {
        TwoPhaseUnwind x = Program.ran("FUNC ADD:2 THROW:15 END", 5);
        Due.isFalse("addToken(99, 0)", x.addToken(99, 0));
        Due.equal("getStatus()", x.getStatus(), TwoPhaseUnwind.STATUS_UNCAUGHT);
        Due.equal("getResult()", x.getResult(), 7);
        Due.equal("getUncaughtType()", x.getUncaughtType(), 15);
    }

    public static void main(String[] args) {
        Due.sentence("getStatus() answers STATUS_NORMAL or STATUS_UNCAUGHT of the last run",
                ResultsTest::statusOfTheLastRun);
        Due.sentence("It is STATUS_NONE whenever the results are cleared", ResultsTest::statusWhenCleared);
        Due.sentence("getResult() answers acc at the end of the last run", ResultsTest::resultOfTheLastRun);
        Due.sentence("getResult() answers acc at the end of the last run: UNCAUGHT",
                ResultsTest::resultOfAnUncaughtRun);
        Due.sentence("and 0 when the status is NONE", ResultsTest::resultWhenNone);
        Due.sentence("getUncaughtType() answers the type 1..15 of the uncaught exception",
                ResultsTest::uncaughtTypes);
        Due.sentence("and 0 unless the status is UNCAUGHT: NORMAL", ResultsTest::noTypeWhenNormal);
        Due.sentence("and 0 unless the status is UNCAUGHT: NONE", ResultsTest::noTypeWhenNone);
        Due.sentence("a refused token does not clear the results", ResultsTest::refusedTokenClearsNothing);
        Due.sentence("getStatus changes nothing", () -> States.dueChangesNothing(TwoPhaseUnwind::getStatus));
        Due.sentence("getResult changes nothing", () -> States.dueChangesNothing(TwoPhaseUnwind::getResult));
        Due.sentence("getUncaughtType changes nothing",
                () -> States.dueChangesNothing(TwoPhaseUnwind::getUncaughtType));
        Due.finish();
    }
}
