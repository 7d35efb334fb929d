/** Promise 4: which programs are valid, and the index of the first token that fits no valid one. */
public final class CompileTest {
    private static final int MIN = Integer.MIN_VALUE;
    private static final int MAX = Integer.MAX_VALUE;
    /** Ints outside 0..15, some of which a narrower type would fold into it. */
    private static final int[] NO_TYPES = {MIN, MIN + 1, -65536 + 3, -256 + 3, -16, -15, -2, -1, 16, 17, 31, 256,
        256 + 3, 65536, 65536 + 3, MAX - 1, MAX};
    /** Function k starts behind the k-th of these. */
    private static final String[] HEADS =
        {"FUNC", "FUNC END FUNC", "FUNC END FUNC END FUNC", "FUNC END FUNC END FUNC END FUNC"};
    private static final String[] NOT_FUNC =
        "END TRY CATCH:1 FINALLY ADD:1 MARK:1 THROW:1 THROWNZ:1 RETHROW CALL:1".split(" ");

    private static void due(String text, int want) {
        TwoPhaseUnwind x = Program.of(text);
        int tokens = x.getTokenCount();
        Due.equal("compile of [" + text + "]", x.compile(), want);
        boolean ok = want == TwoPhaseUnwind.COMPILE_OK;
        Due.equal("isCompiled of [" + text + "]", x.isCompiled() ? 1 : 0, ok ? 1 : 0);
        Due.isTrue("function count of [" + text + "]", ok ? x.getFunctionCount() >= 1 : x.getFunctionCount() == 0);
        Due.equal("tokens of [" + text + "]", x.getTokenCount(), tokens);
    }

    private static void dueOk(String text) {
        due(text, TwoPhaseUnwind.COMPILE_OK);
    }

    /** The last token is the first that fits no valid program, whatever follows it. */
    private static void dueLast(String text) {
        int last = text.split(" ").length - 1;
        due(text, last);
        due(text + " END END", last);
        due(text + " FUNC", last);
    }

    /** Every token fits, but the program isn't whole. */
    private static void dueCut(String text) {
        due(text, text.isEmpty() ? 0 : text.split(" ").length);
    }

    private static String repeat(String word, int times) {
        return (" " + word).repeat(times);
    }

    private static void firstTokenIsFunc() {
        for (String kind : NOT_FUNC) {
            dueLast(kind);
        }
    }

    private static void onlyFuncBehindAFunction() {
        for (String head : HEADS) {
            for (String kind : NOT_FUNC) {
                dueLast(head + " END " + kind);
                dueLast(head + " TRY CATCH:0 END END " + kind);
            }
        }
    }

    private static void fifthFunc() {
        dueOk("FUNC END FUNC END FUNC END FUNC END");
        dueLast("FUNC END FUNC END FUNC END FUNC END FUNC");
        dueLast("FUNC CALL:3 END FUNC CALL:2 END FUNC END FUNC ADD:1 END FUNC");
    }

    private static void funcInsideAFunction() {
        dueLast("FUNC FUNC");
        dueLast("FUNC TRY FUNC");
        dueLast("FUNC TRY CATCH:1 FUNC");
        dueLast("FUNC TRY FINALLY FUNC");
        dueLast("FUNC TRY FINALLY END FUNC");
    }

    private static void misplacedCatch() {
        dueLast("FUNC CATCH:1");
        dueLast("FUNC ADD:1 CATCH:0");
        dueLast("FUNC TRY CATCH:1 END CATCH:1");
        dueLast("FUNC TRY FINALLY CATCH:1");
        dueLast("FUNC TRY CATCH:1 FINALLY CATCH:2");
        dueLast("FUNC TRY CATCH:1 FINALLY TRY FINALLY END CATCH:2");
        dueLast("FUNC TRY FINALLY MARK:1 CATCH:0");
        dueOk("FUNC TRY TRY CATCH:1 END CATCH:1 END END");
        dueOk("FUNC TRY FINALLY TRY CATCH:1 END END END");
    }

    private static void misplacedFinally() {
        dueLast("FUNC FINALLY");
        dueLast("FUNC MARK:1 FINALLY");
        dueLast("FUNC TRY FINALLY END FINALLY");
        dueLast("FUNC TRY FINALLY FINALLY");
        dueLast("FUNC TRY CATCH:1 FINALLY FINALLY");
        dueLast("FUNC TRY CATCH:1 FINALLY TRY FINALLY END FINALLY");
        dueOk("FUNC TRY TRY FINALLY END FINALLY END END");
        dueOk("FUNC TRY FINALLY TRY FINALLY END END END");
    }

    private static void tryWithoutClauses() {
        dueLast("FUNC TRY END");
        dueLast("FUNC TRY ADD:1 END");
        dueLast("FUNC TRY TRY CATCH:1 END END");
        dueLast("FUNC TRY CATCH:1 TRY END");
        dueLast("FUNC TRY FINALLY TRY THROW:1 END");
        dueOk("FUNC TRY CATCH:1 END END");
        dueOk("FUNC TRY FINALLY END END");
        dueOk("FUNC TRY CATCH:1 CATCH:1 CATCH:0 FINALLY END END");
        dueOk("FUNC TRY TRY FINALLY END CATCH:0 TRY CATCH:1 END FINALLY TRY FINALLY END END END");
    }

    private static void catchArgs() {
        for (int t = 0; t <= 15; t++) {
            dueOk("FUNC TRY CATCH:" + t + " END END");
            dueOk("FUNC TRY CATCH:2 CATCH:" + t + " END END");
        }
        for (int t : NO_TYPES) {
            dueLast("FUNC TRY CATCH:" + t);
            dueLast("FUNC TRY CATCH:2 CATCH:" + t);
        }
    }

    private static void throwArgs(String kind) {
        for (int t = 1; t <= 15; t++) {
            dueOk("FUNC " + kind + ":" + t + " END");
        }
        dueLast("FUNC " + kind + ":0");
        for (int t : NO_TYPES) {
            dueLast("FUNC " + kind + ":" + t);
            dueLast("FUNC TRY CATCH:0 " + kind + ":" + t);
        }
    }

    private static void misplacedRethrow() {
        dueLast("FUNC RETHROW");
        dueLast("FUNC TRY RETHROW");
        dueLast("FUNC TRY FINALLY RETHROW");
        dueLast("FUNC TRY CATCH:1 FINALLY RETHROW");
        dueLast("FUNC TRY CATCH:1 END RETHROW");
        dueLast("FUNC TRY TRY CATCH:1 END RETHROW");
        dueLast("FUNC TRY CATCH:1 FINALLY TRY RETHROW");
    }

    private static void rethrowOfAnotherFunction() {
        dueLast("FUNC TRY CATCH:1 END END FUNC RETHROW");
        dueLast("FUNC TRY CATCH:1 RETHROW CALL:1 END END FUNC RETHROW");
        dueLast("FUNC TRY CATCH:1 RETHROW CALL:1 END END FUNC TRY RETHROW");
    }

    private static void rethrowAtAnyDepth() {
        dueOk("FUNC TRY CATCH:1 RETHROW CATCH:2 RETHROW END END");
        dueOk("FUNC TRY CATCH:1 TRY RETHROW CATCH:2 RETHROW FINALLY RETHROW END RETHROW END END");
        dueOk("FUNC TRY CATCH:1 TRY TRY FINALLY RETHROW END FINALLY END END END");
        dueOk("FUNC TRY FINALLY TRY CATCH:3 RETHROW END END END");
        dueOk("FUNC TRY CATCH:1" + repeat("TRY", 8) + " RETHROW" + repeat("FINALLY END", 8) + " END END");
    }

    private static void callArgs() {
        int[] never = {MIN, MIN + 2, -256 + 2, -65536 + 2, -3, -1, 4, 5, 256 + 2, 65536 + 3, MAX};
        for (int k = 0; k < HEADS.length; k++) {
            for (int f : never) {
                dueLast(HEADS[k] + " CALL:" + f);
            }
            for (int f = 0; f <= k; f++) {
                dueLast(HEADS[k] + " CALL:" + f);
            }
        }
        dueLast("FUNC CALL:3 END FUNC CALL:1");
    }

    private static void callBeforeItsFunction() {
        for (int k = 0; k < HEADS.length; k++) {
            for (int f = k + 1; f <= 3; f++) {
                due(HEADS[k] + " CALL:" + f + " RETHROW", 2 * k + 2);
                dueCut(HEADS[k] + " CALL:" + f);
            }
        }
    }

    /** A CALL f in function k is whole exactly when f follows too. */
    private static void dueCallNeeds(int k, int f) {
        String text = HEADS[k] + " CALL:" + f + " END";
        dueCut(text);
        for (int last = k + 1; last <= 3; last++) {
            text += " FUNC END";
            if (last >= f) {
                dueOk(text);
            } else {
                dueCut(text);
            }
        }
    }

    private static void missingFunction() {
        for (int k = 0; k < HEADS.length; k++) {
            for (int f = k + 1; f <= 3; f++) {
                dueCallNeeds(k, f);
            }
        }
        dueCut("FUNC CALL:3 CALL:1 END FUNC END");
        dueCut("FUNC CALL:1 CALL:3 END FUNC END FUNC END");
        dueOk("FUNC CALL:1 CALL:3 END FUNC CALL:2 END FUNC END FUNC END");
    }

    private static void noTokens() {
        due("", 0);
        TwoPhaseUnwind x = Program.ran(Program.BUSY, 1);
        x.reset();
        Due.equal("compile() after reset", x.compile(), 0);
        Program.dueNotCompiled("no tokens", x);
    }

    private static void unclosedFunction() {
        for (String head : HEADS) {
            dueCut(head);
            dueCut(head + " ADD:1 MARK:2");
            dueCut(head + " TRY CATCH:1 END");
        }
        dueOk("FUNC END");
    }

    private static void unclosedTry() {
        dueCut("FUNC TRY");
        dueCut("FUNC TRY MARK:1");
        dueCut("FUNC TRY CATCH:1");
        dueCut("FUNC TRY CATCH:1 CATCH:2");
        dueCut("FUNC TRY CATCH:1 FINALLY");
        dueCut("FUNC TRY FINALLY");
        dueCut("FUNC TRY FINALLY TRY CATCH:1 END");
        dueCut("FUNC TRY TRY TRY FINALLY END");
    }

    /** A full object can't take what is missing, but the document asks for a program of any length. */
    private static void ofAnyLength() {
        for (int maxTokens = 8; maxTokens <= 32; maxTokens++) {
            TwoPhaseUnwind tries = new TwoPhaseUnwind(maxTokens, 1);
            Program.add(tries, "FUNC" + repeat("TRY", maxTokens - 1));
            Due.equal("compile() of open tries, full", tries.compile(), maxTokens);
            TwoPhaseUnwind calls = new TwoPhaseUnwind(maxTokens, 1);
            Program.add(calls, "FUNC" + repeat("CALL:3", maxTokens - 2) + " END");
            Due.equal("compile() of calls, full", calls.compile(), maxTokens);
            TwoPhaseUnwind ends = new TwoPhaseUnwind(maxTokens, 1);
            Program.add(ends, "FUNC" + repeat("ADD:1", maxTokens - 3) + " END END");
            Due.equal("compile() of an END too many, full", ends.compile(), maxTokens - 1);
            TwoPhaseUnwind whole = new TwoPhaseUnwind(maxTokens, 1);
            Program.add(whole, "FUNC" + repeat("ADD:1", maxTokens - 2) + " END");
            Due.equal("compile() of a full program", whole.compile(), TwoPhaseUnwind.COMPILE_OK);
        }
        dueOk("FUNC" + repeat("TRY", 10) + repeat("FINALLY END", 10) + " END");
    }

    private static void leastIndex() {
        due("FUNC CALL:3 TRY END", 3);
        due("FUNC THROW:16 THROW:17 END", 1);
        due("FUNC CALL:3 END ADD:1", 3);
        due("ADD:1 FUNC CALL:0", 0);
        due("FUNC TRY END RETHROW CATCH:16", 2);
        due("FUNC CALL:2 END FUNC RETHROW", 4);
    }

    private static void ignoredArgs() {
        for (int t : NO_TYPES) {
            dueOk("FUNC:" + t + " TRY:" + t + " CATCH:1 RETHROW:" + t + " FINALLY:" + t + " END:" + t + " END:" + t);
            dueOk("FUNC ADD:" + t + " MARK:" + t + " END");
        }
    }

    private static void clearsResults() {
        for (States.State state : States.all()) {
            state.x().compile();
            Program.dueCleared(state.name() + ", compile", state.x());
        }
    }

    private static void compilesAgain() {
        for (States.State state : States.afterARun()) {
            int functions = state.x().getFunctionCount();
            for (int again = 0; again < 3; again++) {
                Due.equal(state.name() + ": compile()", state.x().compile(), TwoPhaseUnwind.COMPILE_OK);
                Due.isTrue(state.name() + ", compile: isCompiled()", state.x().isCompiled());
                Due.equal(state.name() + ", compile: getFunctionCount()", state.x().getFunctionCount(), functions);
            }
        }
    }

    private static void tokensStay() {
        for (States.State state : States.all()) {
            String before = States.tokens(state.x());
            state.x().compile();
            Due.same(state.name() + ", compile: tokens", States.tokens(state.x()), before);
        }
        TwoPhaseUnwind x = Program.of("FUNC:5 TRY:-6 CATCH:7 END:8 CALL:9 END");
        String before = States.tokens(x);
        Due.equal("compile()", x.compile(), 4);
        Due.same("tokens after a refused compile", States.tokens(x), before);
        Due.equal("compile() again", x.compile(), 4);
    }

    private static void functionCounts() {
        String text = "";
        for (int n = 1; n <= 4; n++) {
            text += " FUNC END";
            Due.equal("getFunctionCount() of [" + text + "]", Program.compiled(text).getFunctionCount(), n);
        }
        Due.equal("COMPILE_OK", Program.of("FUNC END").compile(), -1);
    }

    private static void notOkMeansNotCompiled() {
        // A function count of two from the first compile must not stay.
        TwoPhaseUnwind x = Program.compiled("FUNC CALL:1 END FUNC END");
        Program.add(x, "FUNC");
        Due.equal("compile() of an unclosed function", x.compile(), 6);
        Program.dueNotCompiled("after an unclosed function", x);
        Program.add(x, "RETHROW");
        Due.equal("compile() of a misplaced RETHROW", x.compile(), 6);
        Program.dueNotCompiled("after a misplaced RETHROW", x);
        Due.isFalse("run(1) after a refused compile", x.run(1));
    }

    private static void answersInRange() {
        for (States.State state : States.all()) {
            int answer = state.x().compile();
            Due.isTrue(state.name() + ": compile() in range: " + answer,
                    answer >= -1 && answer <= state.x().getTokenCount());
        }
        TwoPhaseUnwind x = new TwoPhaseUnwind(32, 1);
        RandomProgram random = new RandomProgram(4);
        for (int round = 0; round < 20000; round++) {
            x.reset();
            int tokens = random.pick(33);
            for (int i = 0; i < tokens; i++) {
                x.addToken(i == 0 ? 1 : random.pick(11) + 1, random.pick(5));
            }
            int answer = x.compile();
            Due.isTrue("compile() of " + tokens + " tokens in range: " + answer, answer >= -1 && answer <= tokens);
            Due.isTrue("compiled after " + answer, x.isCompiled() == (answer == -1));
            Due.isTrue("function count after " + answer, (x.getFunctionCount() > 0) == (answer == -1));
        }
    }

    private static void places() {
        Due.sentence("a first token that is not FUNC", CompileTest::firstTokenIsFunc);
        Due.sentence("a token other than FUNC right after the END that closes a function",
                CompileTest::onlyFuncBehindAFunction);
        Due.sentence("a fifth FUNC", CompileTest::fifthFunc);
        Due.sentence("func := FUNC body END", CompileTest::funcInsideAFunction);
        Due.sentence("a CATCH that the grammar does not allow at its place", CompileTest::misplacedCatch);
        Due.sentence("a FINALLY that the grammar does not allow at its place", CompileTest::misplacedFinally);
        Due.sentence("an END closing a try statement that has neither a CATCH clause nor a FINALLY body",
                CompileTest::tryWithoutClauses);
        Due.sentence("a RETHROW not inside the body of a CATCH clause", CompileTest::misplacedRethrow);
        Due.sentence("a CATCH clause of its own function", CompileTest::rethrowOfAnotherFunction);
        Due.sentence("at any depth, inside a nested try, catch or finally there", CompileTest::rethrowAtAnyDepth);
    }

    private static void args() {
        Due.sentence("a CATCH arg outside 0..15", CompileTest::catchArgs);
        Due.sentence("a THROW arg outside 1..15", () -> throwArgs("THROW"));
        Due.sentence("a THROWNZ arg outside 1..15", () -> throwArgs("THROWNZ"));
        Due.sentence("a CALL f in function k without k < f <= 3", CompileTest::callArgs);
        Due.sentence("a CALL f fits when k < f <= 3, whether or not function f is present yet",
                CompileTest::callBeforeItsFunction);
        Due.sentence("The args of FUNC, END, TRY, FINALLY and RETHROW are ignored", CompileTest::ignoredArgs);
    }

    public static void main(String[] args) {
        places();
        args();
        Due.sentence("it answers getTokenCount(): no tokens", CompileTest::noTokens);
        Due.sentence("it answers getTokenCount(): an unclosed function", CompileTest::unclosedFunction);
        Due.sentence("it answers getTokenCount(): an unclosed try statement", CompileTest::unclosedTry);
        Due.sentence("it answers getTokenCount(): a CALL to a function the program does not have",
                CompileTest::missingFunction);
        Due.sentence("not the beginning of any valid program, of any length", CompileTest::ofAnyLength);
        Due.sentence("the least index i", CompileTest::leastIndex);
        Due.sentence("always first clears the results", CompileTest::clearsResults);
        Due.sentence("it sets compiled: also when it was before", CompileTest::compilesAgain);
        Due.sentence("The tokens never change", CompileTest::tokensStay);
        Due.sentence("sets the function count to the number of FUNC tokens (1..4) and answers COMPILE_OK",
                CompileTest::functionCounts);
        Due.sentence("After a non-OK answer the object is not compiled and the function count is 0",
                CompileTest::notOkMeansNotCompiled);
        Due.sentence("the answer is COMPILE_OK or lies in 0..getTokenCount()", CompileTest::answersInRange);
        Due.finish();
    }
}
