/** Promise 5: what a run does, after the document's Semantics, a test for each sentence. */
public final class RunTest {
    private static final int MIN = Integer.MIN_VALUE;
    private static final int MAX = Integer.MAX_VALUE;
    private static final int[] INPUTS = {0, 1, -1, 2, 255, 256, 65536, MIN, MIN + 1, MAX - 1, MAX};

    private static void due(String text, int input, String want) {
        Program.due(text, input, want);
    }

    // ---- statements and arithmetic ----

    private static void statementsInOrder() {
        due("FUNC END", 5, "NORMAL acc=5 trace=[] catches=0 finallys=0");
        due("FUNC ADD:3 MARK:9 ADD:-10 MARK:-9 END", 5, "NORMAL acc=-2 trace=[9 -9] catches=0 finallys=0");
        due("FUNC MARK:1 END FUNC MARK:2 END", 0, "NORMAL acc=0 trace=[1] catches=0 finallys=0");
    }

    private static void calls() {
        due("FUNC MARK:1 CALL:1 MARK:2 CALL:1 MARK:3 END FUNC MARK:8 ADD:5 END", 0,
                "NORMAL acc=10 trace=[1 8 2 8 3] catches=0 finallys=0");
        due("FUNC CALL:2 CALL:1 END FUNC CALL:3 MARK:1 END FUNC MARK:2 CALL:3 END FUNC MARK:3 END", 0,
                "NORMAL acc=0 trace=[2 3 3 1] catches=0 finallys=0");
        due("FUNC CALL:3 END FUNC MARK:1 END FUNC MARK:2 END FUNC MARK:3 END", 0,
                "NORMAL acc=0 trace=[3] catches=0 finallys=0");
        due("FUNC CALL:1 END FUNC END", 4, "NORMAL acc=4 trace=[] catches=0 finallys=0");
    }

    private static void anyInput() {
        for (int input : INPUTS) {
            due("FUNC END", input, "NORMAL acc=" + input + " trace=[] catches=0 finallys=0");
            due("FUNC THROWNZ:1 END", input, (input == 0 ? "NORMAL" : "UNCAUGHT type=1") + " acc=" + input
                    + " trace=[] catches=0 finallys=0");
        }
    }

    private static void wrapping() {
        due("FUNC ADD:1 END", MAX, "NORMAL acc=-2147483648 trace=[] catches=0 finallys=0");
        due("FUNC ADD:-1 END", MIN, "NORMAL acc=2147483647 trace=[] catches=0 finallys=0");
        due("FUNC ADD:2147483647 END", MAX, "NORMAL acc=-2 trace=[] catches=0 finallys=0");
        due("FUNC ADD:2147483647 ADD:2147483647 ADD:2 END", 0, "NORMAL acc=0 trace=[] catches=0 finallys=0");
        due("FUNC ADD:1 ADD:-1 END", MAX, "NORMAL acc=2147483647 trace=[] catches=0 finallys=0");
        // A sum kept wider than 32 bits would not be 0 here, and the throw would fire.
        due("FUNC ADD:-2147483648 THROWNZ:1 END", MIN, "NORMAL acc=0 trace=[] catches=0 finallys=0");
        due("FUNC ADD:2147483647 ADD:2 THROWNZ:1 END", MAX, "NORMAL acc=0 trace=[] catches=0 finallys=0");
    }

    private static void wrappingInEveryBody() {
        String bodies = "FUNC TRY ADD:1 THROW:1 CATCH:1 ADD:-1 FINALLY ADD:1 END CALL:1 END FUNC ADD:-1 END";
        due(bodies, MAX, "NORMAL acc=2147483647 trace=[] catches=1 finallys=1");
        due("FUNC TRY TRY THROW:1 FINALLY ADD:2147483647 END CATCH:1 ADD:3 END END", MAX,
                "NORMAL acc=1 trace=[] catches=1 finallys=1");
        due("FUNC ADD:1 THROW:2 END", MAX, "UNCAUGHT type=2 acc=-2147483648 trace=[] catches=0 finallys=0");
    }

    private static void thrownz() {
        String text = "FUNC TRY THROWNZ:2 MARK:1 CATCH:2 MARK:2 END END";
        for (int input : INPUTS) {
            due(text, input, "NORMAL acc=" + input + (input == 0 ? " trace=[1] catches=0" : " trace=[2] catches=1")
                    + " finallys=0");
        }
        due("FUNC TRY ADD:-5 THROWNZ:2 MARK:1 CATCH:2 MARK:2 END END", 5,
                "NORMAL acc=0 trace=[1] catches=0 finallys=0");
    }

    // ---- the search for a handler ----

    private static void writtenOrder() {
        for (int t = 1; t <= 15; t++) {
            due("FUNC TRY THROW:" + t + " CATCH:" + t + " MARK:1 CATCH:0 MARK:2 END END", 0,
                    "NORMAL acc=0 trace=[1] catches=1 finallys=0");
            due("FUNC TRY THROW:" + t + " CATCH:" + (t % 15 + 1) + " MARK:1 CATCH:0 MARK:2 END END", 0,
                    "NORMAL acc=0 trace=[2] catches=1 finallys=0");
            due("FUNC TRY THROW:" + t + " CATCH:0 MARK:1 CATCH:" + t + " MARK:2 END END", 0,
                    "NORMAL acc=0 trace=[1] catches=1 finallys=0");
        }
        due("FUNC TRY THROW:3 CATCH:3 MARK:1 CATCH:3 MARK:2 END MARK:5 END", 0,
                "NORMAL acc=0 trace=[1 5] catches=1 finallys=0");
        due("FUNC TRY THROW:3 CATCH:1 MARK:1 CATCH:2 MARK:2 CATCH:3 MARK:3 CATCH:4 MARK:4 END END", 0,
                "NORMAL acc=0 trace=[3] catches=1 finallys=0");
    }

    private static void innermostFirst() {
        due("FUNC TRY TRY THROW:3 CATCH:3 MARK:1 END MARK:4 CATCH:3 MARK:2 END END", 0,
                "NORMAL acc=0 trace=[1 4] catches=1 finallys=0");
        due("FUNC TRY TRY TRY THROW:3 CATCH:4 MARK:1 END CATCH:0 MARK:2 END CATCH:3 MARK:3 END END", 0,
                "NORMAL acc=0 trace=[2] catches=1 finallys=0");
        due("FUNC TRY CALL:1 CATCH:3 MARK:1 END END FUNC TRY THROW:3 CATCH:3 MARK:2 END END", 0,
                "NORMAL acc=0 trace=[2] catches=1 finallys=0");
        due("FUNC TRY TRY CALL:1 CATCH:3 MARK:1 END CATCH:3 MARK:2 END END FUNC TRY THROW:3 CATCH:4 MARK:3 END END",
                0, "NORMAL acc=0 trace=[1] catches=1 finallys=0");
    }

    private static void activeInCalledFunctions() {
        due("FUNC TRY CALL:1 MARK:9 CATCH:7 MARK:1 END MARK:2 END FUNC CALL:2 MARK:9 END FUNC CALL:3 MARK:9 END"
                + " FUNC THROW:7 END", 0, "NORMAL acc=0 trace=[1 2] catches=1 finallys=0");
        // A clause in the called function counts only while its own try body runs.
        due("FUNC TRY CALL:1 CATCH:0 MARK:1 END END FUNC TRY CATCH:7 MARK:2 END THROW:7 END", 0,
                "NORMAL acc=0 trace=[1] catches=1 finallys=0");
    }

    private static void inactiveInCatchBodies() {
        due("FUNC TRY THROW:1 CATCH:1 THROW:2 CATCH:2 MARK:1 END END", 0,
                "UNCAUGHT type=2 acc=0 trace=[] catches=1 finallys=0");
        due("FUNC TRY THROW:1 CATCH:0 THROW:1 END END", 0, "UNCAUGHT type=1 acc=0 trace=[] catches=1 finallys=0");
        due("FUNC TRY THROW:1 CATCH:1 CALL:1 CATCH:2 MARK:1 END END FUNC THROW:2 END", 0,
                "UNCAUGHT type=2 acc=0 trace=[] catches=1 finallys=0");
        due("FUNC TRY THROW:1 CATCH:0 TRY THROW:1 FINALLY MARK:1 END END END", 0,
                "UNCAUGHT type=1 acc=0 trace=[] catches=1 finallys=0");
    }

    private static void inactiveInFinallyBodies() {
        due("FUNC TRY CATCH:0 MARK:1 FINALLY THROW:3 END END", 0,
                "UNCAUGHT type=3 acc=0 trace=[] catches=0 finallys=1");
        due("FUNC TRY THROW:1 CATCH:0 MARK:1 FINALLY THROW:3 END END", 0,
                "UNCAUGHT type=3 acc=0 trace=[1] catches=1 finallys=1");
        due("FUNC TRY CATCH:2 MARK:1 FINALLY CALL:1 END END FUNC THROW:2 END", 0,
                "UNCAUGHT type=2 acc=0 trace=[] catches=0 finallys=1");
        // Also in one that an unwinding runs.
        due("FUNC TRY TRY THROW:1 CATCH:2 MARK:8 FINALLY THROW:2 END CATCH:1 MARK:9 END END", 0,
                "UNCAUGHT type=2 acc=0 trace=[] catches=0 finallys=1");
    }

    private static void inactiveOutside() {
        due("FUNC TRY CATCH:3 MARK:1 END THROW:3 END", 0, "UNCAUGHT type=3 acc=0 trace=[] catches=0 finallys=0");
        due("FUNC THROW:3 TRY CATCH:3 MARK:1 END END", 0, "UNCAUGHT type=3 acc=0 trace=[] catches=0 finallys=0");
        // The clauses of a nested try in the body, a clause or the finally body aren't the outer one's.
        due("FUNC TRY TRY CATCH:3 MARK:1 END THROW:3 CATCH:4 TRY CATCH:3 MARK:2 END"
                + " FINALLY TRY CATCH:3 MARK:3 END END END", 0,
                "UNCAUGHT type=3 acc=0 trace=[] catches=0 finallys=0");
    }

    // ---- no handler ----

    private static void noHandlerAnyType() {
        for (int t = 1; t <= 15; t++) {
            due("FUNC MARK:1 THROW:" + t + " MARK:2 END", 0,
                    "UNCAUGHT type=" + t + " acc=0 trace=[1] catches=0 finallys=0");
            due("FUNC THROWNZ:" + t + " MARK:2 END", -4,
                    "UNCAUGHT type=" + t + " acc=-4 trace=[] catches=0 finallys=0");
            String others = (t > 1 ? " CATCH:" + (t - 1) : "") + (t < 15 ? " CATCH:" + (t + 1) : "");
            due("FUNC TRY THROW:" + t + others + " MARK:2 FINALLY MARK:3 END END", 0,
                    "UNCAUGHT type=" + t + " acc=0 trace=[] catches=0 finallys=0");
        }
    }

    private static void noHandlerNoFinally() {
        due("FUNC TRY ADD:4 MARK:1 THROW:3 CATCH:4 MARK:2 FINALLY MARK:3 ADD:1 END END", 1,
                "UNCAUGHT type=3 acc=5 trace=[1] catches=0 finallys=0");
        due("FUNC TRY CALL:1 FINALLY MARK:3 END END FUNC TRY THROW:9 FINALLY MARK:4 END END", 1,
                "UNCAUGHT type=9 acc=1 trace=[] catches=0 finallys=0");
        due("FUNC TRY TRY TRY THROW:9 FINALLY MARK:1 END FINALLY MARK:2 END FINALLY MARK:3 END MARK:4 END", 1,
                "UNCAUGHT type=9 acc=1 trace=[] catches=0 finallys=0");
        due("FUNC TRY THROW:1 CATCH:1 MARK:1 THROW:2 FINALLY MARK:3 END END", 0,
                "UNCAUGHT type=2 acc=0 trace=[1] catches=1 finallys=0");
        due("FUNC TRY THROW:1 CATCH:1 MARK:1 RETHROW FINALLY MARK:3 END END", 0,
                "UNCAUGHT type=1 acc=0 trace=[1] catches=1 finallys=0");
    }

    private static void uncaughtKeepsValues() {
        due("FUNC ADD:1 MARK:1 TRY THROW:1 CATCH:1 ADD:10 MARK:2 FINALLY ADD:100 MARK:3 END THROWNZ:5 ADD:1000"
                + " MARK:4 END", 0, "UNCAUGHT type=5 acc=111 trace=[1 2 3] catches=1 finallys=1");
        due("FUNC ADD:1 CALL:1 ADD:10 END FUNC ADD:2 MARK:6 THROW:8 ADD:20 END", 0,
                "UNCAUGHT type=8 acc=3 trace=[6] catches=0 finallys=0");
        due("FUNC ADD:-1 THROW:8 END", 1, "UNCAUGHT type=8 acc=0 trace=[] catches=0 finallys=0");
    }

    // ---- each way to leave a try statement ----

    private static void leftByItsTryBody() {
        due("FUNC TRY MARK:1 CATCH:0 MARK:2 END MARK:3 END", 0, "NORMAL acc=0 trace=[1 3] catches=0 finallys=0");
        due("FUNC TRY MARK:1 CATCH:0 MARK:2 FINALLY MARK:3 END MARK:4 END", 0,
                "NORMAL acc=0 trace=[1 3 4] catches=0 finallys=1");
        due("FUNC TRY MARK:1 FINALLY MARK:3 END MARK:4 END", 0, "NORMAL acc=0 trace=[1 3 4] catches=0 finallys=1");
        due("FUNC TRY FINALLY END END", 0, "NORMAL acc=0 trace=[] catches=0 finallys=1");
        due("FUNC TRY CATCH:0 CATCH:1 END END", 0, "NORMAL acc=0 trace=[] catches=0 finallys=0");
        due("FUNC TRY TRY MARK:1 FINALLY MARK:2 END FINALLY TRY MARK:3 FINALLY MARK:4 END END MARK:5 END", 0,
                "NORMAL acc=0 trace=[1 2 3 4 5] catches=0 finallys=3");
    }

    private static void leftByACatchBody() {
        due("FUNC TRY THROW:1 MARK:9 CATCH:1 MARK:1 CATCH:0 MARK:2 END MARK:3 END", 0,
                "NORMAL acc=0 trace=[1 3] catches=1 finallys=0");
        due("FUNC TRY THROW:1 MARK:9 CATCH:1 MARK:1 CATCH:0 MARK:2 FINALLY MARK:4 END MARK:3 END", 0,
                "NORMAL acc=0 trace=[1 4 3] catches=1 finallys=1");
        due("FUNC TRY THROW:2 CATCH:1 MARK:1 CATCH:0 MARK:2 FINALLY MARK:4 END MARK:3 END", 0,
                "NORMAL acc=0 trace=[2 4 3] catches=1 finallys=1");
        due("FUNC TRY THROW:2 CATCH:2 FINALLY END MARK:3 END", 0, "NORMAL acc=0 trace=[3] catches=1 finallys=1");
    }

    private static void leftFromItsTryBodyByAThrow() {
        due("FUNC TRY TRY THROW:5 MARK:9 CATCH:6 MARK:9 FINALLY MARK:1 END MARK:9 CATCH:5 MARK:2 END MARK:3 END", 0,
                "NORMAL acc=0 trace=[1 2 3] catches=1 finallys=1");
        due("FUNC TRY TRY THROW:5 MARK:9 CATCH:6 MARK:9 END MARK:9 CATCH:5 MARK:2 END MARK:3 END", 0,
                "NORMAL acc=0 trace=[2 3] catches=1 finallys=0");
    }

    private static void leftFromACatchBodyByAThrow() {
        due("FUNC TRY TRY THROW:1 CATCH:1 MARK:1 THROW:2 MARK:9 FINALLY MARK:2 END MARK:9 CATCH:2 MARK:3 END END", 0,
                "NORMAL acc=0 trace=[1 2 3] catches=2 finallys=1");
        due("FUNC TRY TRY THROW:1 CATCH:1 MARK:1 THROW:2 MARK:9 END MARK:9 CATCH:2 MARK:3 END END", 0,
                "NORMAL acc=0 trace=[1 3] catches=2 finallys=0");
        // The throw comes from a function that the catch body calls.
        due("FUNC TRY TRY THROW:1 CATCH:0 CALL:1 MARK:9 FINALLY MARK:2 END CATCH:2 MARK:3 END END"
                + " FUNC TRY THROW:2 FINALLY MARK:1 END END", 0,
                "NORMAL acc=0 trace=[1 2 3] catches=2 finallys=2");
    }

    private static void leftFromItsFinallyBodyByAThrow() {
        due("FUNC TRY TRY FINALLY MARK:1 THROW:2 MARK:9 END MARK:9 CATCH:2 MARK:3 END MARK:4 END", 0,
                "NORMAL acc=0 trace=[1 3 4] catches=1 finallys=1");
        due("FUNC TRY TRY THROW:1 CATCH:1 MARK:1 FINALLY MARK:2 THROW:2 MARK:9 END CATCH:2 MARK:3 END END", 0,
                "NORMAL acc=0 trace=[1 2 3] catches=2 finallys=1");
        due("FUNC TRY TRY FINALLY CALL:1 MARK:9 END CATCH:2 MARK:3 END END FUNC THROW:2 END", 0,
                "NORMAL acc=0 trace=[3] catches=1 finallys=1");
        // The try statement inside the finally body is left too, and its own finally body runs.
        due("FUNC TRY TRY FINALLY TRY THROW:2 FINALLY MARK:1 END MARK:9 END CATCH:2 MARK:3 END END", 0,
                "NORMAL acc=0 trace=[1 3] catches=1 finallys=2");
    }

    private static void unwindGoesOnOutwards() {
        due("FUNC TRY TRY TRY THROW:5 FINALLY MARK:1 END MARK:9 FINALLY MARK:2 END MARK:9"
                + " CATCH:5 MARK:3 FINALLY MARK:4 END MARK:5 END", 0,
                "NORMAL acc=0 trace=[1 2 3 4 5] catches=1 finallys=3");
        // What is left from a finally body and from a catch body on the way of one throw.
        due("FUNC TRY TRY THROW:1 CATCH:1 TRY FINALLY MARK:1 THROW:2 END FINALLY MARK:2 END CATCH:2 MARK:3 END END",
                0, "NORMAL acc=0 trace=[1 2 3] catches=2 finallys=2");
        // The handler was found before the finally bodies ran, and stays the handler.
        due("FUNC TRY TRY THROWNZ:2 FINALLY ADD:-1 END CATCH:2 THROWNZ:7 MARK:3 END END", 1,
                "NORMAL acc=0 trace=[3] catches=1 finallys=1");
    }

    private static void unwindLeavesFunctions() {
        due("FUNC TRY CALL:1 MARK:9 CATCH:4 MARK:3 END MARK:4 END"
                + " FUNC TRY CALL:2 MARK:9 FINALLY MARK:2 END MARK:9 END"
                + " FUNC TRY THROW:4 CATCH:5 MARK:9 FINALLY MARK:1 END MARK:9 END", 0,
                "NORMAL acc=0 trace=[1 2 3 4] catches=1 finallys=2");
        // The function is called again after an unwinding left it.
        due("FUNC TRY CALL:1 CATCH:4 MARK:1 END ADD:-1 CALL:1 MARK:2 END FUNC THROWNZ:4 MARK:3 END", 1,
                "NORMAL acc=0 trace=[1 3 2] catches=1 finallys=0");
        // A finally body run by the unwinding calls a function with a throw of its own.
        due("FUNC TRY TRY THROW:1 FINALLY CALL:1 MARK:2 END CATCH:1 MARK:3 END END"
                + " FUNC TRY THROW:2 CATCH:2 MARK:1 FINALLY MARK:7 END END", 0,
                "NORMAL acc=0 trace=[1 7 2 3] catches=2 finallys=2");
    }

    // ---- throws out of bodies that an unwinding runs ----

    private static void abandonedForANearerHandler() {
        due("FUNC TRY TRY TRY THROW:1 FINALLY MARK:1 THROW:2 END CATCH:2 MARK:2 END MARK:3"
                + " CATCH:1 MARK:4 END MARK:5 END", 0,
                "NORMAL acc=0 trace=[1 2 3 5] catches=1 finallys=1");
        // The same from a function that the finally body calls.
        due("FUNC TRY TRY TRY THROW:1 FINALLY CALL:1 END CATCH:2 MARK:2 END MARK:3 CATCH:1 MARK:4 END END"
                + " FUNC MARK:1 THROW:2 END", 0, "NORMAL acc=0 trace=[1 2 3] catches=1 finallys=1");
    }

    private static void abandonedForTheSameStatement() {
        due("FUNC TRY TRY THROW:1 FINALLY THROW:2 END CATCH:1 MARK:1 CATCH:2 MARK:2 FINALLY MARK:3 END END", 0,
                "NORMAL acc=0 trace=[2 3] catches=1 finallys=2");
        due("FUNC TRY TRY THROW:1 FINALLY THROW:1 END CATCH:1 MARK:1 FINALLY MARK:3 END END", 0,
                "NORMAL acc=0 trace=[1 3] catches=1 finallys=2");
    }

    private static void abandonedForAFartherHandler() {
        due("FUNC TRY TRY TRY THROW:1 FINALLY MARK:1 THROW:2 END CATCH:1 MARK:9 FINALLY MARK:2 END MARK:9"
                + " CATCH:2 MARK:3 END MARK:4 END", 0,
                "NORMAL acc=0 trace=[1 2 3 4] catches=1 finallys=2");
        // The abandoned type does not come back after the new handler is done.
        due("FUNC TRY TRY CALL:1 CATCH:1 MARK:9 END CATCH:2 MARK:3 END MARK:4 END"
                + " FUNC TRY THROW:1 FINALLY THROW:2 END MARK:9 END", 0,
                "NORMAL acc=0 trace=[3 4] catches=1 finallys=1");
    }

    private static void abandonedWithoutHandler() {
        due("FUNC TRY TRY THROW:1 FINALLY MARK:1 THROW:2 END CATCH:1 MARK:2 FINALLY MARK:3 END END", 0,
                "UNCAUGHT type=2 acc=0 trace=[1] catches=0 finallys=1");
        due("FUNC TRY TRY THROW:1 CATCH:1 THROW:3 FINALLY MARK:1 THROW:2 END CATCH:3 MARK:2 END END", 0,
                "UNCAUGHT type=2 acc=0 trace=[1] catches=1 finallys=1");
    }

    private static void notAbandonedWhenCaughtInside() {
        due("FUNC TRY TRY THROW:1 FINALLY TRY THROW:2 CATCH:2 MARK:1 END MARK:2 END CATCH:1 MARK:3 END END", 0,
                "NORMAL acc=0 trace=[1 2 3] catches=2 finallys=1");
        due("FUNC TRY TRY THROW:1 FINALLY TRY TRY THROW:2 FINALLY MARK:1 END CATCH:2 MARK:2 END MARK:3 END"
                + " CATCH:1 MARK:4 END END", 0,
                "NORMAL acc=0 trace=[1 2 3 4] catches=2 finallys=2");
        due("FUNC TRY TRY THROW:1 FINALLY TRY THROW:1 CATCH:1 MARK:1 END END CATCH:1 RETHROW END END", 0,
                "UNCAUGHT type=1 acc=0 trace=[1] catches=2 finallys=1");
    }

    private static void rethrowsTheActualType() {
        due("FUNC TRY TRY THROW:6 CATCH:6 MARK:1 RETHROW MARK:9 FINALLY MARK:2 END CATCH:6 MARK:3 END END", 0,
                "NORMAL acc=0 trace=[1 2 3] catches=2 finallys=1");
        for (int t = 1; t <= 15; t++) {
            due("FUNC TRY THROW:" + t + " CATCH:0 RETHROW:9 END END", 0,
                    "UNCAUGHT type=" + t + " acc=0 trace=[] catches=1 finallys=0");
        }
        // The type is kept while finally bodies on the way run.
        due("FUNC TRY TRY TRY THROW:5 FINALLY END FINALLY TRY THROW:8 CATCH:8 END END CATCH:0 RETHROW END END", 0,
                "UNCAUGHT type=5 acc=0 trace=[] catches=2 finallys=2");
    }

    private static void rethrowsOfTheInnermostCatch() {
        due("FUNC TRY THROW:1 CATCH:1 TRY THROW:2 CATCH:2 MARK:1 END RETHROW END END", 0,
                "UNCAUGHT type=1 acc=0 trace=[1] catches=2 finallys=0");
        due("FUNC TRY THROW:1 CATCH:1 TRY THROW:2 CATCH:2 RETHROW END END END", 0,
                "UNCAUGHT type=2 acc=0 trace=[] catches=2 finallys=0");
        due("FUNC TRY THROW:1 CATCH:1 TRY THROW:2 CATCH:2 FINALLY RETHROW END END END", 0,
                "UNCAUGHT type=1 acc=0 trace=[] catches=2 finallys=1");
        due("FUNC TRY THROW:1 CATCH:1 TRY RETHROW CATCH:1 MARK:1 END MARK:2 END END", 0,
                "NORMAL acc=0 trace=[1 2] catches=2 finallys=0");
        // While a finally body on the way of type 2 runs, the catch body around it still holds type 1.
        due("FUNC TRY TRY THROW:1 CATCH:1 TRY THROW:2 FINALLY RETHROW END END CATCH:2 MARK:2 CATCH:1 MARK:1 END END", 0,
                "NORMAL acc=0 trace=[1] catches=2 finallys=1");
        // A catch body that called a function keeps its type over the function's own catch.
        due("FUNC TRY THROW:1 CATCH:1 CALL:1 RETHROW END END FUNC TRY THROW:2 CATCH:0 END END", 0,
                "UNCAUGHT type=1 acc=0 trace=[] catches=2 finallys=0");
    }

    // ---- the call itself ----

    private static void notCompiled() {
        for (int input : INPUTS) {
            States.dueChangesNothing(States::notCompiled, x -> Due.isFalse("run(" + input + ")", x.run(input)));
        }
        for (States.State state : States.notCompiled()) {
            state.x().run(1);
            Program.dueCleared(state.name() + ", run", state.x());
        }
    }

    private static void clearsTheLastRun() {
        String text = "FUNC TRY MARK:1 THROWNZ:3 CATCH:0 MARK:2 RETHROW FINALLY MARK:3 END END";
        TwoPhaseUnwind x = Program.compiled(text);
        for (int input : new int[] {0, 5, 5, 0, 0, -1, 5}) {
            Due.isTrue("run(" + input + ")", x.run(input));
            Due.same("repeated run(" + input + ")", Program.outcome(x),
                    input == 0 ? "NORMAL acc=0 trace=[1 3] catches=0 finallys=1"
                            : "UNCAUGHT type=3 acc=" + input + " trace=[1 2] catches=1 finallys=0");
        }
    }

    private static void staysCompiled() {
        for (States.State state : States.compiledButNotRun()) {
            TwoPhaseUnwind x = state.x();
            String tokens = States.tokens(x);
            int functions = x.getFunctionCount();
            for (int input : INPUTS) {
                Due.isTrue(state.name() + ": run(" + input + ")", x.run(input));
                Due.isTrue(state.name() + ", run: isCompiled()", x.isCompiled());
                Due.equal(state.name() + ", run: getFunctionCount()", x.getFunctionCount(), functions);
                Due.same(state.name() + ", run: tokens", States.tokens(x), tokens);
            }
        }
    }

    /** No program of 32 tokens calls more often than one with eight calls on each of three levels. */
    private static void longestRun() {
        String calls = "";
        for (int f = 1; f <= 3; f++) {
            calls += "FUNC" + (" CALL:" + f).repeat(8) + " END ";
        }
        due(calls + "FUNC END", 3, "NORMAL acc=3 trace=[] catches=0 finallys=0");
        // One call less on the first level makes room for a statement that counts them.
        due(calls.replaceFirst(" CALL:1", "") + "FUNC ADD:1 END", 0,
                "NORMAL acc=" + 7 * 8 * 8 + " trace=[] catches=0 finallys=0");
    }

    // ---- immediately after a call that answers true ----

    private interface AfterRun {
        void test(TwoPhaseUnwind x, int input, String program);
    }

    private static void afterRuns(boolean withThrows, AfterRun test) {
        RandomProgram random = new RandomProgram(5);
        TwoPhaseUnwind x = new TwoPhaseUnwind(32, 4);
        for (int round = 0; round < 5000; round++) {
            random.next();
            x.reset();
            int[] kinds = random.kinds();
            int[] args = random.args();
            for (int i = 0; i < kinds.length; i++) {
                boolean isThrow = kinds[i] >= TwoPhaseUnwind.T_THROW && kinds[i] <= TwoPhaseUnwind.T_RETHROW;
                x.addToken(isThrow && !withThrows ? TwoPhaseUnwind.T_ADD : kinds[i], args[i]);
            }
            Due.equal("compile()", x.compile(), TwoPhaseUnwind.COMPILE_OK);
            for (int input : new int[] {0, 1, MAX}) {
                Due.isTrue("run(" + input + ")", x.run(input));
                test.test(x, input, "run(" + input + ") of " + States.tokens(x));
            }
        }
    }

    private static void hasAStatus(TwoPhaseUnwind x, int input, String program) {
        int status = x.getStatus();
        if (status != TwoPhaseUnwind.STATUS_NORMAL && status != TwoPhaseUnwind.STATUS_UNCAUGHT) {
            Due.equal(program + ": getStatus()", status, TwoPhaseUnwind.STATUS_NORMAL);
        }
    }

    private static void statusFitsType(TwoPhaseUnwind x, int input, String program) {
        int type = x.getUncaughtType();
        boolean uncaught = x.getStatus() == TwoPhaseUnwind.STATUS_UNCAUGHT;
        boolean normal = x.getStatus() == TwoPhaseUnwind.STATUS_NORMAL;
        if (uncaught != (type >= 1 && type <= 15) || normal != (type == 0)) {
            Due.isTrue(program + ": status " + x.getStatus() + " fits type " + type, false);
        }
    }

    private static void sameAgain(TwoPhaseUnwind x, int input, String program) {
        String before = States.results(x);
        boolean again = x.run(input);
        if (!again || !States.results(x).equals(before)) {
            Due.same(program + " again: " + again, States.results(x), before);
        }
    }

    private static void normalWithoutThrows(TwoPhaseUnwind x, int input, String program) {
        if (x.getStatus() != TwoPhaseUnwind.STATUS_NORMAL || x.getCatchRuns() != 0) {
            Due.same(program, Program.outcome(x), "NORMAL without a catch");
        }
    }

    private static void statements() {
        Due.sentence("Statements run in order", RunTest::statementsInOrder);
        Due.sentence("CALL f: run the body of function f, then go on after the CALL", RunTest::calls);
        Due.sentence("run(int input) accepts any int", RunTest::anyInput);
        Due.sentence("All ADD arithmetic wraps as Java int addition does", RunTest::wrapping);
        Due.sentence("All ADD arithmetic wraps, in every body", RunTest::wrappingInEveryBody);
        Due.sentence("THROWNZ: if acc != 0 throw type t, else do nothing", RunTest::thrownz);
    }

    private static void search() {
        Due.sentence("go through its CATCH clauses in written order", RunTest::writtenOrder);
        Due.sentence("innermost first", RunTest::innermostFirst);
        Due.sentence("This includes control inside functions called from there, at any depth",
                RunTest::activeInCalledFunctions);
        Due.sentence("They are not active while S's catch bodies run", RunTest::inactiveInCatchBodies);
        Due.sentence("They are not active while S's finally body runs", RunTest::inactiveInFinallyBodies);
        Due.sentence("ACTIVE exactly while control is inside S's try body", RunTest::inactiveOutside);
        Due.sentence("If there is no handler, the run ends at once with status UNCAUGHT and uncaught type t",
                RunTest::noHandlerAnyType);
        Due.sentence("Nothing more runs, not even any finally body", RunTest::noHandlerNoFinally);
        Due.sentence("For UNCAUGHT, the result, the trace and the counters are the values they had at the moment"
                + " the run ended", RunTest::uncaughtKeepsValues);
    }

    private static void leaving() {
        Due.sentence("If that completes normally, S's finally body (if any) runs", RunTest::leftByItsTryBody);
        Due.sentence("If it completes normally, H's finally body (if any) runs", RunTest::leftByACatchBody);
        Due.sentence("When S is left from its try body and S has a finally body, that finally body runs then",
                RunTest::leftFromItsTryBodyByAThrow);
        Due.sentence("When S is left from one of its catch bodies, that finally body runs then",
                RunTest::leftFromACatchBodyByAThrow);
        Due.sentence("When S is left from its finally body, nothing more of S runs",
                RunTest::leftFromItsFinallyBodyByAThrow);
        Due.sentence("After a finally body completes normally, the unwinding goes on outwards",
                RunTest::unwindGoesOnOutwards);
        Due.sentence("This leaves function frames up to H's frame", RunTest::unwindLeavesFunctions);
        Due.sentence("A throw that escapes a finally body run in step 2 abandons type t: nearer handler",
                RunTest::abandonedForANearerHandler);
        Due.sentence("A throw that escapes a finally body run in step 2: another clause of H",
                RunTest::abandonedForTheSameStatement);
        Due.sentence("A throw that escapes a finally body run in step 2: farther handler",
                RunTest::abandonedForAFartherHandler);
        Due.sentence("A throw that escapes a finally body run in step 2: no handler",
                RunTest::abandonedWithoutHandler);
        Due.sentence("A throw that does not escape the finally body abandons nothing",
                RunTest::notAbandonedWhenCaughtInside);
        Due.sentence("RETHROW: the actual type t, also when the clause arg is 0", RunTest::rethrowsTheActualType);
        Due.sentence("RETHROW: the innermost catch body that lexically contains this token",
                RunTest::rethrowsOfTheInnermostCatch);
    }

    public static void main(String[] args) {
        statements();
        search();
        leaving();
        Due.sentence("If the object is not compiled, it answers false and nothing changes", RunTest::notCompiled);
        Due.sentence("Otherwise it clears the results", RunTest::clearsTheLastRun);
        Due.sentence("The program stays compiled and the tokens do not change", RunTest::staysCompiled);
        Due.sentence("every run ends", RunTest::longestRun);
        Due.sentence("getStatus() is STATUS_NORMAL or STATUS_UNCAUGHT", () -> afterRuns(true, RunTest::hasAStatus));
        Due.sentence("STATUS_UNCAUGHT exactly when getUncaughtType() is in 1..15, and STATUS_NORMAL exactly when 0",
                () -> afterRuns(true, RunTest::statusFitsType));
        Due.sentence("Calling run with the same input again at once leaves the answers unchanged",
                () -> afterRuns(true, RunTest::sameAgain));
        Due.sentence("If no token has kind T_THROW, T_THROWNZ or T_RETHROW, the status is STATUS_NORMAL and"
                + " getCatchRuns() is 0", () -> afterRuns(false, RunTest::normalWithoutThrows));
        Due.finish();
    }
}
