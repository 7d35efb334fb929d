/** Promise 10: getCatchRuns and getFinallyRuns. */
public final class CountersTest {
    private static void due(String when, TwoPhaseUnwind x, int catches, int finallys) {
        for (int again = 0; again < 2; again++) {
            Due.equal(when + ": getCatchRuns()", x.getCatchRuns(), catches);
            Due.equal(when + ": getFinallyRuns()", x.getFinallyRuns(), finallys);
        }
    }

    private static void dueRun(String text, int input, int catches, int finallys) {
        due("run(" + input + ") of [" + text + "]", Program.ran(text, input), catches, finallys);
    }

    private static void everyPath() {
        dueRun("FUNC END", 0, 0, 0);
        dueRun("FUNC TRY CATCH:0 FINALLY END END", 0, 0, 1);
        dueRun("FUNC TRY THROW:1 CATCH:0 FINALLY END END", 0, 1, 1);
        dueRun("FUNC TRY THROW:1 CATCH:0 END END", 0, 1, 0);
        dueRun("FUNC TRY TRY THROW:1 FINALLY END CATCH:0 END END", 0, 1, 1);
        dueRun("FUNC TRY TRY THROW:1 CATCH:1 RETHROW FINALLY END CATCH:0 FINALLY END END", 0, 2, 2);
        dueRun("FUNC TRY TRY FINALLY THROW:1 END CATCH:0 END END", 0, 1, 1);
        // Bodies that are empty or that a throw cuts short began all the same.
        dueRun("FUNC TRY THROW:1 CATCH:0 THROW:2 END END", 0, 1, 0);
        dueRun("FUNC TRY FINALLY THROW:2 END END", 0, 0, 1);
        dueRun("FUNC TRY TRY THROW:1 FINALLY THROW:2 END CATCH:0 FINALLY END END", 0, 1, 2);
        // A finally body that an uncaught throw never reaches doesn't count.
        dueRun("FUNC TRY THROW:1 CATCH:2 FINALLY END END", 0, 0, 0);
    }

    private static void countedPerExecution() {
        String text = "FUNC CALL:1 CALL:1 CALL:1 END FUNC TRY THROWNZ:1 CATCH:1 FINALLY END END";
        dueRun(text, 0, 0, 3);
        dueRun(text, 1, 3, 3);
    }

    private static void clearing() {
        TwoPhaseUnwind x = Program.compiled("FUNC TRY THROW:1 CATCH:1 FINALLY END END");
        due("after compile", x, 0, 0);
        x.run(0);
        x.run(0);
        due("after two runs", x, 1, 1);
        x.addToken(-1, 0);
        due("after a refused token", x, 1, 1);
        x.compile();
        due("after compile again", x, 0, 0);
        x.run(0);
        Program.add(x, "MARK:1");
        due("after a taken token", x, 0, 0);
        x.reset();
        due("after reset", x, 0, 0);
    }

    public static void main(String[] args) {
        everyPath();
        countedPerExecution();
        clearing();
        Due.finish();
    }
}
