/** Promise 8: getStatus, getResult and getUncaughtType. */
public final class ResultsTest {
    private static void due(String when, TwoPhaseUnwind x, int status, int result, int type) {
        for (int again = 0; again < 2; again++) {
            Due.equal(when + ": getStatus()", x.getStatus(), status);
            Due.equal(when + ": getResult()", x.getResult(), result);
            Due.equal(when + ": getUncaughtType()", x.getUncaughtType(), type);
        }
    }

    private static void statuses() {
        TwoPhaseUnwind x = Program.of("FUNC ADD:2 THROWNZ:15 ADD:40 END");
        due("before compile", x, TwoPhaseUnwind.STATUS_NONE, 0, 0);
        x.compile();
        due("after compile", x, TwoPhaseUnwind.STATUS_NONE, 0, 0);
        x.run(5);
        due("after run(5)", x, TwoPhaseUnwind.STATUS_UNCAUGHT, 7, 15);
        x.run(-2);
        due("after run(-2)", x, TwoPhaseUnwind.STATUS_NORMAL, 40, 0);
        x.run(Integer.MAX_VALUE);
        due("after run(MAX)", x, TwoPhaseUnwind.STATUS_UNCAUGHT, Integer.MIN_VALUE + 1, 15);
        x.compile();
        due("after compile again", x, TwoPhaseUnwind.STATUS_NONE, 0, 0);
        x.run(5);
        x.addToken(99, 0);
        due("after a refused token", x, TwoPhaseUnwind.STATUS_UNCAUGHT, 7, 15);
        Program.add(x, "END");
        due("after a taken token", x, TwoPhaseUnwind.STATUS_NONE, 0, 0);
        x.compile();
        due("after a refused compile", x, TwoPhaseUnwind.STATUS_NONE, 0, 0);
        x.run(5);
        due("after a refused run", x, TwoPhaseUnwind.STATUS_NONE, 0, 0);
    }

    private static void caughtIsNormal() {
        TwoPhaseUnwind x = Program.ran("FUNC TRY ADD:1 THROW:9 CATCH:9 ADD:10 FINALLY ADD:100 END ADD:1000 END", 5);
        due("a caught throw", x, TwoPhaseUnwind.STATUS_NORMAL, 1116, 0);
    }

    private static void uncaughtKeepsAcc() {
        TwoPhaseUnwind x = Program.ran("FUNC TRY CALL:1 FINALLY ADD:100 END ADD:1000 END FUNC ADD:1 THROW:2 END", 5);
        due("an uncaught throw", x, TwoPhaseUnwind.STATUS_UNCAUGHT, 6, 2);
    }

    private static void resetClears() {
        TwoPhaseUnwind x = Program.ran(Program.BUSY, 1);
        due("before reset", x, TwoPhaseUnwind.STATUS_UNCAUGHT, 1, 4);
        x.reset();
        due("after reset", x, TwoPhaseUnwind.STATUS_NONE, 0, 0);
    }

    public static void main(String[] args) {
        statuses();
        caughtIsNormal();
        uncaughtKeepsAcc();
        resetClears();
        Due.finish();
    }
}
