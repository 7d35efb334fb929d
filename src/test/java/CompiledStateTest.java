/** Promise 7: isCompiled and getFunctionCount, a test for each sentence. */
public final class CompiledStateTest {
    private static void dueCompiled(String when, TwoPhaseUnwind x, int functions) {
        Due.isTrue(when + ": isCompiled()", x.isCompiled());
        Due.equal(when + ": getFunctionCount()", x.getFunctionCount(), functions);
    }

    private static void lastCompileSucceeded() {
        TwoPhaseUnwind x = Program.of("FUNC CALL:1 END FUNC END");
        Program.dueNotCompiled("before compile", x);
        x.compile();
        dueCompiled("after compile", x, 2);
        x.compile();
        dueCompiled("after a second compile", x, 2);
    }

    private static void lastCompileRefused() {
        TwoPhaseUnwind x = Program.compiled("FUNC CALL:1 END FUNC END");
        Program.add(x, "FUNC");
        Due.equal("compile() of an unclosed function", x.compile(), 6);
        Program.dueNotCompiled("after an unclosed function", x);
        Program.add(x, "FUNC");
        Due.equal("compile() of a FUNC in a function", x.compile(), 6);
        Program.dueNotCompiled("after a FUNC in a function", x);
        TwoPhaseUnwind empty = new TwoPhaseUnwind(8, 1);
        Due.equal("compile() of nothing", empty.compile(), 0);
        Program.dueNotCompiled("after compile of nothing", empty);
    }

    private static void missingFunction() {
        TwoPhaseUnwind x = Program.of("FUNC CALL:2 END FUNC END");
        Due.equal("compile()", x.compile(), 5);
        Program.dueNotCompiled("with a missing function", x);
        Program.add(x, "FUNC END");
        Program.dueNotCompiled("with the function, before compile", x);
        Due.equal("compile()", x.compile(), TwoPhaseUnwind.COMPILE_OK);
        dueCompiled("with the function", x, 3);
    }

    private static void tokenAdded() {
        for (int kind = 1; kind <= 11; kind++) {
            TwoPhaseUnwind x = Program.compiled("FUNC CALL:1 END FUNC END");
            Due.isTrue("addToken(" + kind + ", 1)", x.addToken(kind, 1));
            Program.dueNotCompiled("after addToken(" + kind + ", 1)", x);
        }
        // The last token that fits makes no difference.
        TwoPhaseUnwind x = new TwoPhaseUnwind(8, 1);
        Program.add(x, "FUNC ADD:1 ADD:1 ADD:1 ADD:1 ADD:1 END");
        x.compile();
        dueCompiled("one below full", x, 1);
        Due.isTrue("addToken", x.addToken(TwoPhaseUnwind.T_FUNC, 0));
        Program.dueNotCompiled("full by an added token", x);
    }

    private static void wrongKindAdded() {
        for (int kind : new int[] {Integer.MIN_VALUE, -1, 0, 12, 13, Integer.MAX_VALUE}) {
            TwoPhaseUnwind x = Program.compiled("FUNC CALL:1 END FUNC END");
            Due.isFalse("addToken(" + kind + ", 0)", x.addToken(kind, 0));
            dueCompiled("after addToken(" + kind + ", 0)", x, 2);
            Due.isTrue("run(0)", x.run(0));
            Due.isFalse("addToken(" + kind + ", 0) after a run", x.addToken(kind, 0));
            dueCompiled("after a run and addToken(" + kind + ", 0)", x, 2);
        }
    }

    private static void addedToAFullObject() {
        TwoPhaseUnwind x = new TwoPhaseUnwind(8, 1);
        Program.add(x, "FUNC END FUNC END FUNC END FUNC END");
        x.compile();
        for (int kind = 0; kind <= 12; kind++) {
            Due.isFalse("addToken(" + kind + ", 0) when full", x.addToken(kind, 0));
            dueCompiled("full, after addToken(" + kind + ", 0)", x, 4);
        }
    }

    private static void resetMade() {
        for (States.State state : States.all()) {
            state.x().reset();
            Program.dueNotCompiled(state.name() + ", reset", state.x());
        }
    }

    private static void afterRuns() {
        for (String text : new String[] {Program.BUSY, Program.FOUR}) {
            TwoPhaseUnwind x = Program.compiled(text);
            int functions = x.getFunctionCount();
            for (int input = -1; input <= 1; input++) {
                Due.isTrue("run(" + input + ")", x.run(input));
                dueCompiled("after run(" + input + ")", x, functions);
            }
        }
        TwoPhaseUnwind never = Program.of(Program.BUSY);
        Due.isFalse("run(1) before compile", never.run(1));
        Program.dueNotCompiled("after a refused run", never);
    }

    private static void functionCounts() {
        TwoPhaseUnwind x = new TwoPhaseUnwind(32, 1);
        for (int n = 1; n <= 4; n++) {
            Program.add(x, "FUNC ADD:1 END");
            Due.equal("compile()", x.compile(), TwoPhaseUnwind.COMPILE_OK);
            dueCompiled("with " + n + " functions", x, n);
        }
        Program.add(x, "FUNC");
        Due.equal("compile() of five functions", x.compile(), 12);
        Program.dueNotCompiled("after a fifth FUNC", x);
        x.reset();
        Program.add(x, "FUNC END");
        x.compile();
        dueCompiled("one function after four", x, 1);
    }

    private static void noFunctionsIfNotCompiled() {
        for (States.State state : States.notCompiled()) {
            Due.isFalse(state.name() + ": isCompiled()", state.x().isCompiled());
            Due.equal(state.name() + ": getFunctionCount()", state.x().getFunctionCount(), 0);
        }
    }

    public static void main(String[] args) {
        Due.sentence("true exactly when the last compile succeeded", CompiledStateTest::lastCompileSucceeded);
        Due.sentence("not when the last compile was refused", CompiledStateTest::lastCompileRefused);
        Due.sentence("not when a function that is called is missing", CompiledStateTest::missingFunction);
        Due.sentence("and no token was added since", CompiledStateTest::tokenAdded);
        Due.sentence("and no reset was made since", CompiledStateTest::resetMade);
        Due.sentence("A refused addToken does not count as an added token: wrong kind",
                CompiledStateTest::wrongKindAdded);
        Due.sentence("A refused addToken does not count as an added token: full",
                CompiledStateTest::addedToAFullObject);
        Due.sentence("a run, or a refused one, is none of these", CompiledStateTest::afterRuns);
        Due.sentence("the number of functions of the compiled program, 1..4", CompiledStateTest::functionCounts);
        Due.sentence("and 0 if not compiled", CompiledStateTest::noFunctionsIfNotCompiled);
        Due.sentence("isCompiled changes nothing", () -> States.dueChangesNothing(TwoPhaseUnwind::isCompiled));
        Due.sentence("getFunctionCount changes nothing",
                () -> States.dueChangesNothing(TwoPhaseUnwind::getFunctionCount));
        Due.finish();
    }
}
