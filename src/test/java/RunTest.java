/** Promise 5: what a run does, after the document's Semantics. */
public final class RunTest {
    private static void due(String text, int input, String want) {
        Program.due(text, input, want);
    }

    private static void straight() {
        due("FUNC END", 5, "NORMAL acc=5 trace=[] catches=0 finallys=0");
        due("FUNC ADD:3 MARK:9 ADD:-10 MARK:-9 END", 5, "NORMAL acc=-2 trace=[9 -9] catches=0 finallys=0");
        due("FUNC MARK:1 CALL:1 MARK:2 CALL:1 MARK:3 END FUNC MARK:8 ADD:5 END", 0,
                "NORMAL acc=10 trace=[1 8 2 8 3] catches=0 finallys=0");
        due("FUNC CALL:2 CALL:1 END FUNC CALL:3 MARK:1 END FUNC MARK:2 CALL:3 END FUNC MARK:3 END", 0,
                "NORMAL acc=0 trace=[2 3 3 1] catches=0 finallys=0");
        due("FUNC MARK:1 END FUNC MARK:2 END", 0, "NORMAL acc=0 trace=[1] catches=0 finallys=0");
    }

    private static void wrapping() {
        due("FUNC ADD:1 END", Integer.MAX_VALUE, "NORMAL acc=-2147483648 trace=[] catches=0 finallys=0");
        due("FUNC ADD:-1 END", Integer.MIN_VALUE, "NORMAL acc=2147483647 trace=[] catches=0 finallys=0");
        due("FUNC ADD:-2147483648 THROWNZ:1 END", Integer.MIN_VALUE,
                "NORMAL acc=0 trace=[] catches=0 finallys=0");
    }

    private static void normalTry() {
        due("FUNC TRY MARK:1 CATCH:0 MARK:2 END MARK:3 END", 0, "NORMAL acc=0 trace=[1 3] catches=0 finallys=0");
        due("FUNC TRY MARK:1 CATCH:0 MARK:2 FINALLY MARK:3 END MARK:4 END", 0,
                "NORMAL acc=0 trace=[1 3 4] catches=0 finallys=1");
        due("FUNC TRY MARK:1 FINALLY MARK:3 END MARK:4 END", 0, "NORMAL acc=0 trace=[1 3 4] catches=0 finallys=1");
    }

    private static void thrownz() {
        String text = "FUNC TRY THROWNZ:2 MARK:1 CATCH:2 MARK:2 END END";
        due(text, 0, "NORMAL acc=0 trace=[1] catches=0 finallys=0");
        due(text, 1, "NORMAL acc=1 trace=[2] catches=1 finallys=0");
        due(text, -1, "NORMAL acc=-1 trace=[2] catches=1 finallys=0");
        due(text, Integer.MIN_VALUE, "NORMAL acc=-2147483648 trace=[2] catches=1 finallys=0");
    }

    private static void choiceOfClause() {
        for (int t = 1; t <= 15; t++) {
            due("FUNC TRY THROW:" + t + " CATCH:" + t + " MARK:1 CATCH:0 MARK:2 END END", 0,
                    "NORMAL acc=0 trace=[1] catches=1 finallys=0");
            due("FUNC TRY THROW:" + t + " CATCH:" + (t % 15 + 1) + " MARK:1 CATCH:0 MARK:2 END END", 0,
                    "NORMAL acc=0 trace=[2] catches=1 finallys=0");
            due("FUNC THROW:" + t + " MARK:1 END", 0, "UNCAUGHT type=" + t + " acc=0 trace=[] catches=0 finallys=0");
        }
        due("FUNC TRY THROW:3 CATCH:0 MARK:1 CATCH:3 MARK:2 END END", 0,
                "NORMAL acc=0 trace=[1] catches=1 finallys=0");
        due("FUNC TRY THROW:3 CATCH:3 MARK:1 CATCH:3 MARK:2 END MARK:5 END", 0,
                "NORMAL acc=0 trace=[1 5] catches=1 finallys=0");
        due("FUNC TRY TRY THROW:3 CATCH:3 MARK:1 END MARK:4 CATCH:3 MARK:2 END END", 0,
                "NORMAL acc=0 trace=[1 4] catches=1 finallys=0");
        // The clauses of a nested try in the body, a clause or the finally body aren't the outer one's.
        due("FUNC TRY TRY CATCH:3 MARK:1 END THROW:3 CATCH:4 TRY CATCH:3 MARK:2 END"
                + " FINALLY TRY CATCH:3 MARK:3 END END END", 0,
                "UNCAUGHT type=3 acc=0 trace=[] catches=0 finallys=0");
    }

    private static void uncaughtRunsNothingMore() {
        due("FUNC TRY ADD:4 MARK:1 THROW:3 CATCH:4 MARK:2 FINALLY MARK:3 ADD:1 END END", 1,
                "UNCAUGHT type=3 acc=5 trace=[1] catches=0 finallys=0");
        due("FUNC TRY CALL:1 FINALLY MARK:3 END END FUNC TRY THROW:9 FINALLY MARK:4 END END", 1,
                "UNCAUGHT type=9 acc=1 trace=[] catches=0 finallys=0");
        due("FUNC TRY THROW:1 CATCH:1 MARK:1 THROW:2 FINALLY MARK:3 END END", 0,
                "UNCAUGHT type=2 acc=0 trace=[1] catches=1 finallys=0");
    }

    private static void clausesAreInactiveOutsideTheirTryBody() {
        due("FUNC TRY THROW:1 CATCH:1 THROW:2 CATCH:2 MARK:1 END END", 0,
                "UNCAUGHT type=2 acc=0 trace=[] catches=1 finallys=0");
        due("FUNC TRY THROW:1 CATCH:0 THROW:1 END END", 0, "UNCAUGHT type=1 acc=0 trace=[] catches=1 finallys=0");
        due("FUNC TRY CATCH:0 MARK:1 FINALLY THROW:3 END END", 0,
                "UNCAUGHT type=3 acc=0 trace=[] catches=0 finallys=1");
        due("FUNC TRY CATCH:3 MARK:1 END THROW:3 END", 0, "UNCAUGHT type=3 acc=0 trace=[] catches=0 finallys=0");
        due("FUNC TRY THROW:1 CATCH:1 CALL:1 CATCH:2 MARK:1 END END FUNC THROW:2 END", 0,
                "UNCAUGHT type=2 acc=0 trace=[] catches=1 finallys=0");
        due("FUNC TRY CATCH:2 MARK:1 FINALLY CALL:1 END END FUNC THROW:2 END", 0,
                "UNCAUGHT type=2 acc=0 trace=[] catches=0 finallys=1");
    }

    private static void unwindRunsFinallys() {
        due("FUNC TRY TRY TRY THROW:5 FINALLY MARK:1 END MARK:9 FINALLY MARK:2 END MARK:9"
                + " CATCH:5 MARK:3 FINALLY MARK:4 END MARK:5 END", 0,
                "NORMAL acc=0 trace=[1 2 3 4 5] catches=1 finallys=3");
        // Left from a catch body: its finally body runs; left from a finally body: nothing more runs.
        due("FUNC TRY TRY THROW:1 CATCH:1 MARK:1 THROW:2 MARK:9 FINALLY MARK:2 END CATCH:2 MARK:3 END END", 0,
                "NORMAL acc=0 trace=[1 2 3] catches=2 finallys=1");
        due("FUNC TRY TRY FINALLY MARK:1 THROW:2 MARK:9 END CATCH:2 MARK:3 END END", 0,
                "NORMAL acc=0 trace=[1 3] catches=1 finallys=1");
        // acc changed in a finally body doesn't change the handler that was found before.
        due("FUNC TRY TRY THROWNZ:2 FINALLY ADD:-1 END CATCH:2 THROWNZ:7 MARK:3 END END", 1,
                "NORMAL acc=0 trace=[3] catches=1 finallys=1");
    }

    private static void unwindAcrossCalls() {
        due("FUNC TRY CALL:1 MARK:9 CATCH:4 MARK:3 END MARK:4 END"
                + " FUNC TRY CALL:2 MARK:9 FINALLY MARK:2 END MARK:9 END"
                + " FUNC TRY THROW:4 CATCH:5 MARK:9 FINALLY MARK:1 END MARK:9 END", 0,
                "NORMAL acc=0 trace=[1 2 3 4] catches=1 finallys=2");
        // The function is called again after an unwinding left it.
        due("FUNC TRY CALL:1 CATCH:4 MARK:1 END ADD:-1 CALL:1 MARK:2 END FUNC THROWNZ:4 MARK:3 END", 1,
                "NORMAL acc=0 trace=[1 3 2] catches=1 finallys=0");
        // A finally body run by the unwinding calls a function with a throw of its own.
        due("FUNC TRY TRY THROW:1 FINALLY CALL:1 MARK:2 END CATCH:1 MARK:3 END END"
                + " FUNC TRY THROW:2 CATCH:2 MARK:1 FINALLY MARK:7 END END", 0,
                "NORMAL acc=0 trace=[1 7 2 3] catches=2 finallys=2");
    }

    private static void throwInFinallyAbandons() {
        // The new type goes to a clause between the finally body and the abandoned handler.
        due("FUNC TRY TRY TRY THROW:1 FINALLY MARK:1 THROW:2 END CATCH:2 MARK:2 END MARK:3"
                + " CATCH:1 MARK:4 END MARK:5 END", 0,
                "NORMAL acc=0 trace=[1 2 3 5] catches=1 finallys=1");
        // The try statement of the abandoned handler is still active.
        due("FUNC TRY TRY THROW:1 FINALLY THROW:2 END CATCH:1 MARK:1 CATCH:2 MARK:2 FINALLY MARK:3 END END", 0,
                "NORMAL acc=0 trace=[2 3] catches=1 finallys=2");
        due("FUNC TRY TRY THROW:1 FINALLY MARK:1 THROW:2 END CATCH:1 MARK:2 FINALLY MARK:3 END END", 0,
                "UNCAUGHT type=2 acc=0 trace=[1] catches=0 finallys=1");
        // A throw handled inside the finally body abandons nothing.
        due("FUNC TRY TRY THROW:1 FINALLY TRY THROW:2 CATCH:2 MARK:1 END MARK:2 END CATCH:1 MARK:3 END END", 0,
                "NORMAL acc=0 trace=[1 2 3] catches=2 finallys=1");
        // A finally body nested in one run by the unwinding, both resumed.
        due("FUNC TRY TRY THROW:1 FINALLY TRY TRY THROW:2 FINALLY MARK:1 END CATCH:2 MARK:2 END MARK:3 END"
                + " CATCH:1 MARK:4 END END", 0,
                "NORMAL acc=0 trace=[1 2 3 4] catches=2 finallys=2");
    }

    private static void rethrow() {
        due("FUNC TRY TRY THROW:6 CATCH:6 MARK:1 RETHROW MARK:9 FINALLY MARK:2 END CATCH:6 MARK:3 END END", 0,
                "NORMAL acc=0 trace=[1 2 3] catches=2 finallys=1");
        // The actual type, not the clause's 0.
        due("FUNC TRY THROW:7 CATCH:0 RETHROW END END", 0, "UNCAUGHT type=7 acc=0 trace=[] catches=1 finallys=0");
        // The type is kept while finally bodies on the way run.
        due("FUNC TRY TRY TRY THROW:5 FINALLY END FINALLY TRY THROW:8 CATCH:8 END END CATCH:0 RETHROW END END", 0,
                "UNCAUGHT type=5 acc=0 trace=[] catches=2 finallys=2");
        // The innermost catch body that contains the token counts, not the newest exception.
        due("FUNC TRY THROW:1 CATCH:1 TRY THROW:2 CATCH:2 MARK:1 END RETHROW END END", 0,
                "UNCAUGHT type=1 acc=0 trace=[1] catches=2 finallys=0");
        due("FUNC TRY THROW:1 CATCH:1 TRY THROW:2 CATCH:2 RETHROW END END END", 0,
                "UNCAUGHT type=2 acc=0 trace=[] catches=2 finallys=0");
        due("FUNC TRY THROW:1 CATCH:1 TRY THROW:2 CATCH:2 FINALLY RETHROW END END END", 0,
                "UNCAUGHT type=1 acc=0 trace=[] catches=2 finallys=1");
        due("FUNC TRY THROW:1 CATCH:1 TRY RETHROW CATCH:1 MARK:1 END MARK:2 END END", 0,
                "NORMAL acc=0 trace=[1 2] catches=2 finallys=0");
        // While a finally body on the way of type 2 runs, the catch body around it still holds type 1.
        due("FUNC TRY TRY THROW:1 CATCH:1 TRY THROW:2 FINALLY RETHROW END END CATCH:2 MARK:2 CATCH:1 MARK:1 END END", 0,
                "NORMAL acc=0 trace=[1] catches=2 finallys=1");
        // A catch body that called a function keeps its type over the function's own catch.
        due("FUNC TRY THROW:1 CATCH:1 CALL:1 RETHROW END END FUNC TRY THROW:2 CATCH:0 END END", 0,
                "UNCAUGHT type=1 acc=0 trace=[] catches=2 finallys=0");
    }

    private static void notCompiled() {
        TwoPhaseUnwind x = new TwoPhaseUnwind(8, 8);
        int[] inputs = {0, 1, -1, Integer.MIN_VALUE, Integer.MAX_VALUE};
        for (int input : inputs) {
            Due.isFalse("run(" + input + ") of a new object", x.run(input));
            Program.dueCleared("run of a new object", x);
        }
        Program.add(x, "FUNC MARK:1 END");
        Due.isFalse("run(1) before compile", x.run(1));
        Program.dueCleared("run before compile", x);
        Due.equal("getTokenCount()", x.getTokenCount(), 3);
        Program.add(x, "END");
        Due.equal("compile()", x.compile(), 3);
        Due.isFalse("run(1) after a refused compile", x.run(1));
        Program.dueCleared("run after a refused compile", x);
        Program.dueNotCompiled("run after a refused compile", x);
    }

    private static void repeatedRuns() {
        String text = "FUNC TRY MARK:1 THROWNZ:3 CATCH:0 MARK:2 RETHROW FINALLY MARK:3 END END";
        TwoPhaseUnwind x = Program.compiled(text);
        int[] inputs = {0, 5, 5, 0, 0, -1, 5};
        for (int input : inputs) {
            Due.isTrue("run(" + input + ")", x.run(input));
            String want = input == 0 ? "NORMAL acc=0 trace=[1 3] catches=0 finallys=1"
                    : "UNCAUGHT type=3 acc=" + input + " trace=[1 2] catches=1 finallys=0";
            Due.isTrue("repeated run(" + input + "), due is " + want, Program.outcome(x).equals(want));
            Due.isTrue("isCompiled() after run", x.isCompiled());
            Due.equal("getFunctionCount() after run", x.getFunctionCount(), 1);
            Due.equal("getTokenCount() after run", x.getTokenCount(), 11);
            Due.equal("getTokenArg(3) after run", x.getTokenArg(3), 3);
        }
    }

    /** Hundreds of activations: seven calls on each of three levels. */
    private static void longRun() {
        TwoPhaseUnwind x = new TwoPhaseUnwind(32, 32);
        for (int f = 1; f <= 3; f++) {
            String calls = "FUNC";
            for (int i = 0; i < 7; i++) {
                calls += " CALL:" + f;
            }
            Program.add(x, calls + " END");
        }
        Program.add(x, "FUNC ADD:1 ADD:1 END");
        Due.equal("compile()", x.compile(), TwoPhaseUnwind.COMPILE_OK);
        Due.isTrue("run(0)", x.run(0));
        Due.equal("getStatus()", x.getStatus(), TwoPhaseUnwind.STATUS_NORMAL);
        Due.equal("getResult()", x.getResult(), 2 * 7 * 7 * 7);
    }

    public static void main(String[] args) {
        straight();
        wrapping();
        normalTry();
        thrownz();
        choiceOfClause();
        uncaughtRunsNothingMore();
        clausesAreInactiveOutsideTheirTryBody();
        unwindRunsFinallys();
        unwindAcrossCalls();
        throwInFinallyAbandons();
        rethrow();
        notCompiled();
        repeatedRuns();
        longRun();
        Due.finish();
    }
}
