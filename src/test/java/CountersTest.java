/** Promise 10: getCatchRuns and getFinallyRuns, a test for each sentence. */
public final class CountersTest {
    private static void due(String text, int input, int catches, int finallys) {
        TwoPhaseUnwind x = Program.ran(text, input);
        Due.equal("getCatchRuns() after run(" + input + ") of [" + text + "]", x.getCatchRuns(), catches);
        Due.equal("getFinallyRuns() after run(" + input + ") of [" + text + "]", x.getFinallyRuns(), finallys);
    }

    private static void catchBodies() {
        due("FUNC END", 0, 0, 0);
        due("FUNC TRY CATCH:0 CATCH:1 END END", 0, 0, 0);
        due("FUNC TRY THROW:1 CATCH:2 CATCH:0 CATCH:1 END END", 0, 1, 0);
        due("FUNC TRY TRY THROW:1 CATCH:1 RETHROW END CATCH:1 END END", 0, 2, 0);
        due("FUNC TRY THROW:1 CATCH:1 TRY THROW:1 CATCH:1 END END TRY THROW:2 CATCH:2 END END", 0, 3, 0);
        // An unwinding passes the clauses of inner statements without running them.
        due("FUNC TRY TRY TRY THROW:1 CATCH:2 END CATCH:3 END CATCH:1 END END", 0, 1, 0);
    }

    private static void catchBodiesThatBegan() {
        due("FUNC TRY THROW:1 CATCH:0 END END", 0, 1, 0);
        due("FUNC TRY THROW:1 CATCH:0 THROW:2 MARK:1 END END", 0, 1, 0);
        due("FUNC TRY THROW:1 CATCH:0 RETHROW END END", 0, 1, 0);
        // The handler was found, but a throw on the way to it came before it began.
        due("FUNC TRY TRY THROW:1 FINALLY THROW:2 END CATCH:1 END END", 0, 0, 1);
    }

    private static void finallyAfterTheTryBody() {
        due("FUNC TRY FINALLY END END", 0, 0, 1);
        due("FUNC TRY CATCH:0 FINALLY END END", 0, 0, 1);
        due("FUNC TRY TRY FINALLY END FINALLY TRY FINALLY END END END", 0, 0, 3);
    }

    private static void finallyAfterACatchBody() {
        due("FUNC TRY THROW:1 CATCH:0 FINALLY END END", 0, 1, 1);
        due("FUNC TRY THROW:1 CATCH:2 CATCH:1 FINALLY END END", 0, 1, 1);
    }

    private static void finallyOfAnUnwinding() {
        due("FUNC TRY TRY THROW:1 FINALLY END CATCH:0 END END", 0, 1, 1);
        due("FUNC TRY TRY THROW:1 CATCH:1 RETHROW FINALLY END CATCH:0 FINALLY END END", 0, 2, 2);
        due("FUNC TRY CALL:1 CATCH:0 FINALLY END END FUNC TRY CALL:2 FINALLY END END FUNC TRY THROW:1 FINALLY END END",
                0, 1, 3);
    }

    private static void finallyThatBegan() {
        due("FUNC TRY FINALLY THROW:2 MARK:1 END END", 0, 0, 1);
        due("FUNC TRY TRY FINALLY THROW:1 END CATCH:0 END END", 0, 1, 1);
        due("FUNC TRY TRY THROW:1 FINALLY THROW:2 END CATCH:0 FINALLY END END", 0, 1, 2);
        due("FUNC TRY TRY TRY THROW:1 FINALLY THROW:2 END FINALLY THROW:3 END CATCH:0 END END", 0, 1, 2);
    }

    private static void notOnTheWayToNoHandler() {
        due("FUNC TRY THROW:1 CATCH:2 FINALLY END END", 0, 0, 0);
        due("FUNC TRY THROW:1 CATCH:1 THROW:2 FINALLY END END", 0, 1, 0);
        due("FUNC TRY TRY THROW:1 FINALLY THROW:2 END CATCH:1 FINALLY END END", 0, 0, 1);
        due("FUNC TRY CALL:1 FINALLY END END FUNC TRY THROW:1 FINALLY END END", 0, 0, 0);
    }

    private static void eachTime() {
        String text = "FUNC CALL:1 CALL:1 CALL:1 END FUNC TRY THROWNZ:1 CATCH:1 FINALLY END END";
        due(text, 0, 0, 3);
        due(text, 1, 3, 3);
        // More often than any capacity, or a byte, could count.
        String calls = "";
        for (int f = 1; f <= 3; f++) {
            calls += "FUNC" + (" CALL:" + f).repeat(f < 3 ? 7 : 6) + " END ";
        }
        due(calls + "FUNC TRY THROW:1 CATCH:1 END END", 0, 7 * 7 * 6, 0);
        due(calls + "FUNC TRY FINALLY END END", 0, 0, 7 * 7 * 6);
    }

    private static void ofTheLastRun() {
        TwoPhaseUnwind x = Program.compiled("FUNC TRY THROWNZ:1 CATCH:1 FINALLY END END");
        for (int input : new int[] {1, 1, 0, 1, 0, 0}) {
            x.run(input);
            Due.equal("getCatchRuns() after run(" + input + ")", x.getCatchRuns(), input);
            Due.equal("getFinallyRuns() after run(" + input + ")", x.getFinallyRuns(), 1);
        }
        x.run(1);
        x.addToken(-1, 0);
        Due.equal("getCatchRuns() after a refused token", x.getCatchRuns(), 1);
        Due.equal("getFinallyRuns() after a refused token", x.getFinallyRuns(), 1);
    }

    private static void noCatchesWhenCleared() {
        for (States.State state : States.cleared()) {
            Due.equal(state.name() + ": getCatchRuns()", state.x().getCatchRuns(), 0);
        }
    }

    private static void noFinallysWhenCleared() {
        for (States.State state : States.cleared()) {
            Due.equal(state.name() + ": getFinallyRuns()", state.x().getFinallyRuns(), 0);
        }
    }

    public static void main(String[] args) {
        Due.sentence("how many times a catch body ran", CountersTest::catchBodies);
        Due.sentence("how many times a catch body began", CountersTest::catchBodiesThatBegan);
        Due.sentence("a finally body began, on any path: after the try body", CountersTest::finallyAfterTheTryBody);
        Due.sentence("a finally body began, on any path: after a catch body", CountersTest::finallyAfterACatchBody);
        Due.sentence("a finally body began, on any path: run by an unwind", CountersTest::finallyOfAnUnwinding);
        Due.sentence("how many times a finally body began, also when a throw leaves it",
                CountersTest::finallyThatBegan);
        Due.sentence("not one that a throw without a handler would have passed",
                CountersTest::notOnTheWayToNoHandler);
        Due.sentence("grows by 1 each time", CountersTest::eachTime);
        Due.sentence("of the last run", CountersTest::ofTheLastRun);
        Due.sentence("0 when the results are cleared: getCatchRuns", CountersTest::noCatchesWhenCleared);
        Due.sentence("0 when the results are cleared: getFinallyRuns", CountersTest::noFinallysWhenCleared);
        Due.sentence("getCatchRuns changes nothing", () -> States.dueChangesNothing(TwoPhaseUnwind::getCatchRuns));
        Due.sentence("getFinallyRuns changes nothing",
                () -> States.dueChangesNothing(TwoPhaseUnwind::getFinallyRuns));
        Due.finish();
    }
}
