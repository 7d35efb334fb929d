/** Promise 7: isCompiled and getFunctionCount through every kind of call. */
public final class CompiledStateTest {
    private static void dueCompiled(String when, TwoPhaseUnwind x, int functions) {
        Due.isTrue(when + ": isCompiled()", x.isCompiled());
        Due.equal(when + ": getFunctionCount()", x.getFunctionCount(), functions);
        Due.isTrue(when + ": isCompiled() again", x.isCompiled());
    }

    private static void functionCounts() {
        TwoPhaseUnwind x = new TwoPhaseUnwind(32, 1);
        for (int n = 1; n <= 4; n++) {
            Program.add(x, "FUNC END");
            Program.dueNotCompiled("before compile " + n, x);
            Due.equal("compile()", x.compile(), TwoPhaseUnwind.COMPILE_OK);
            dueCompiled("after compile " + n, x, n);
        }
        Program.add(x, "FUNC");
        Due.equal("compile() of five functions", x.compile(), 8);
        Program.dueNotCompiled("after a fifth FUNC", x);
    }

    private static void calls() {
        TwoPhaseUnwind x = Program.of("FUNC CALL:1 END FUNC END");
        Program.dueNotCompiled("before compile", x);
        Due.isFalse("run(0)", x.run(0));
        Program.dueNotCompiled("after a refused run", x);
        x.compile();
        dueCompiled("after compile", x, 2);
        x.run(3);
        dueCompiled("after run", x, 2);
        Due.isFalse("addToken(0, 0)", x.addToken(0, 0));
        Due.isFalse("addToken(12, 0)", x.addToken(12, 0));
        dueCompiled("after refused addToken", x, 2);
        x.compile();
        dueCompiled("after a second compile", x, 2);
        Program.add(x, "FUNC");
        Program.dueNotCompiled("after addToken", x);
        Due.equal("compile()", x.compile(), 6);
        Program.dueNotCompiled("after an unclosed function", x);
        Program.add(x, "END");
        Program.dueNotCompiled("after addToken", x);
        x.compile();
        dueCompiled("after compile of three", x, 3);
        x.reset();
        Program.dueNotCompiled("after reset", x);
        Due.equal("compile() of nothing", x.compile(), 0);
        Program.dueNotCompiled("after compile of nothing", x);
    }

    private static void missingFunction() {
        TwoPhaseUnwind x = Program.of("FUNC CALL:2 END FUNC END");
        Due.equal("compile()", x.compile(), 5);
        Program.dueNotCompiled("with a missing function", x);
        Program.add(x, "FUNC END");
        Due.equal("compile()", x.compile(), TwoPhaseUnwind.COMPILE_OK);
        dueCompiled("with the function", x, 3);
    }

    public static void main(String[] args) {
        functionCounts();
        calls();
        missingFunction();
        Due.finish();
    }
}
