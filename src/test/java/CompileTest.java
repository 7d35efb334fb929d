/** Promise 4: which programs are valid, and the index of the first token that fits no valid one. */
public final class CompileTest {
    private static void due(String text, int want) {
        TwoPhaseUnwind x = Program.of(text);
        int tokens = x.getTokenCount();
        Due.equal("compile of [" + text + "]", x.compile(), want);
        boolean ok = want == TwoPhaseUnwind.COMPILE_OK;
        Due.equal("isCompiled of [" + text + "]", x.isCompiled() ? 1 : 0, ok ? 1 : 0);
        Due.isTrue("function count of [" + text + "]", ok ? x.getFunctionCount() >= 1 : x.getFunctionCount() == 0);
        Due.equal("tokens of [" + text + "]", x.getTokenCount(), tokens);
    }

    private static void dueOk(String text) {
        due(text, TwoPhaseUnwind.COMPILE_OK);
    }

    /** The last token is the first that fits no valid program, whatever follows it. */
    private static void dueLast(String text) {
        int last = text.split(" ").length - 1;
        due(text, last);
        due(text + " END END", last);
        due(text + " FUNC", last);
    }

    /** Every token fits, but the program isn't whole. */
    private static void dueCut(String text) {
        due(text, text.isEmpty() ? 0 : text.split(" ").length);
    }

    private static void functions() {
        dueCut("");
        dueOk("FUNC END");
        dueOk("FUNC END FUNC END");
        dueOk("FUNC END FUNC END FUNC END FUNC END");
        dueLast("FUNC END FUNC END FUNC END FUNC END FUNC");
        dueCut("FUNC");
        dueCut("FUNC END FUNC");
        dueCut("FUNC ADD:1 MARK:2");
        dueLast("FUNC FUNC");
        dueLast("FUNC TRY FUNC");
        for (String kind : "END TRY CATCH:1 FINALLY ADD:1 MARK:1 THROW:1 THROWNZ:1 RETHROW CALL:1".split(" ")) {
            dueLast(kind);
            dueLast("FUNC END " + kind);
            dueLast("FUNC END FUNC END FUNC END FUNC END " + kind);
        }
    }

    private static void tryStatements() {
        dueOk("FUNC TRY CATCH:1 END END");
        dueOk("FUNC TRY FINALLY END END");
        dueOk("FUNC TRY CATCH:1 CATCH:1 CATCH:0 FINALLY END END");
        dueOk("FUNC TRY TRY FINALLY END CATCH:0 TRY CATCH:1 END FINALLY TRY FINALLY END END END");
        dueLast("FUNC TRY END");
        dueLast("FUNC TRY ADD:1 END");
        dueLast("FUNC TRY TRY CATCH:1 END END");
        dueLast("FUNC CATCH:1");
        dueLast("FUNC FINALLY");
        dueLast("FUNC TRY CATCH:1 END CATCH:1");
        dueLast("FUNC TRY FINALLY END FINALLY");
        dueLast("FUNC TRY FINALLY FINALLY");
        dueLast("FUNC TRY FINALLY CATCH:1");
        dueLast("FUNC TRY CATCH:1 FINALLY CATCH:2");
        dueLast("FUNC TRY CATCH:1 FINALLY FINALLY");
        dueLast("FUNC TRY CATCH:1 FINALLY TRY FINALLY END CATCH:2");
        dueCut("FUNC TRY");
        dueCut("FUNC TRY CATCH:1");
        dueCut("FUNC TRY CATCH:1 FINALLY");
        dueCut("FUNC TRY CATCH:1 END");
        dueCut("FUNC TRY TRY TRY FINALLY END");
    }

    private static void argRanges() {
        for (int t = 0; t <= 15; t++) {
            dueOk("FUNC TRY CATCH:" + t + " END END");
            if (t > 0) {
                dueOk("FUNC THROW:" + t + " END");
                dueOk("FUNC THROWNZ:" + t + " END");
            }
        }
        int[] outside = {-1, 16, 17, 255, 256, 65536, Integer.MIN_VALUE, Integer.MAX_VALUE};
        for (int t : outside) {
            dueLast("FUNC TRY CATCH:" + t);
            dueLast("FUNC THROW:" + t);
            dueLast("FUNC THROWNZ:" + t);
            dueOk("FUNC:" + t + " TRY:" + t + " CATCH:1 RETHROW:" + t + " FINALLY:" + t + " END:" + t + " END:" + t);
            dueOk("FUNC ADD:" + t + " MARK:" + t + " END");
        }
        dueLast("FUNC THROW:0");
        dueLast("FUNC THROWNZ:0");
        dueLast("FUNC TRY CATCH:1 CATCH:16");
    }

    private static void rethrows() {
        dueLast("FUNC RETHROW");
        dueLast("FUNC TRY RETHROW");
        dueLast("FUNC TRY FINALLY RETHROW");
        dueLast("FUNC TRY CATCH:1 FINALLY RETHROW");
        dueLast("FUNC TRY CATCH:1 END RETHROW");
        dueLast("FUNC TRY TRY CATCH:1 END RETHROW");
        dueLast("FUNC TRY CATCH:1 END END FUNC RETHROW");
        dueLast("FUNC TRY CATCH:1 RETHROW CALL:1 END END FUNC RETHROW");
        dueLast("FUNC TRY CATCH:1 FINALLY TRY RETHROW");
        dueOk("FUNC TRY CATCH:1 RETHROW CATCH:2 RETHROW END END");
        dueOk("FUNC TRY CATCH:1 TRY RETHROW CATCH:2 RETHROW FINALLY RETHROW END RETHROW END END");
        dueOk("FUNC TRY CATCH:1 TRY TRY FINALLY RETHROW END FINALLY END END END");
        dueOk("FUNC TRY FINALLY TRY CATCH:3 RETHROW END END END");
    }

    private static void calls() {
        String[] heads = {"FUNC", "FUNC END FUNC", "FUNC END FUNC END FUNC", "FUNC END FUNC END FUNC END FUNC"};
        int[] never = {-1, 4, 5, 256 + 2, Integer.MIN_VALUE, Integer.MAX_VALUE};
        for (int k = 0; k < heads.length; k++) {
            for (int f : never) {
                dueLast(heads[k] + " CALL:" + f);
            }
            for (int f = 0; f <= k; f++) {
                dueLast(heads[k] + " CALL:" + f);
            }
            for (int f = k + 1; f <= 3; f++) {
                dueCut(heads[k] + " CALL:" + f + " END");
                dueCallNeeds(heads[k], k, f);
            }
        }
        dueOk("FUNC CALL:1 CALL:3 END FUNC CALL:2 END FUNC END FUNC END");
        dueCut("FUNC CALL:3 CALL:1 END FUNC END");
        dueLast("FUNC CALL:3 END FUNC CALL:1");
    }

    /** A CALL f in function k is whole exactly when f follows too. */
    private static void dueCallNeeds(String head, int k, int f) {
        StringBuilder text = new StringBuilder(head + " CALL:" + f + " END");
        for (int last = k + 1; last <= 3; last++) {
            text.append(" FUNC END");
            if (last >= f) {
                dueOk(text.toString());
            } else {
                dueCut(text.toString());
            }
        }
    }

    private static void firstFaultWins() {
        due("FUNC CALL:3 TRY END", 3);
        due("FUNC THROW:16 THROW:17 END", 1);
        due("FUNC CALL:3 END ADD:1", 3);
    }

    private static void compileClearsResults() {
        TwoPhaseUnwind x = Program.ran(Program.BUSY, 1);
        Due.equal("compile() again", x.compile(), TwoPhaseUnwind.COMPILE_OK);
        Program.dueCleared("after compile", x);
        Due.isTrue("isCompiled()", x.isCompiled());
        Due.equal("getFunctionCount()", x.getFunctionCount(), 1);
        Due.isTrue("run(1)", x.run(1));
        Due.equal("getUncaughtType()", x.getUncaughtType(), 4);
    }

    private static void tokensStay() {
        TwoPhaseUnwind x = Program.of("FUNC:5 TRY:-6 CATCH:7 END:8 CALL:9 END");
        Due.equal("compile()", x.compile(), 4);
        int[] kinds = {1, 3, 4, 2, 11, 2};
        int[] args = {5, -6, 7, 8, 9, 0};
        for (int i = 0; i < kinds.length; i++) {
            Due.equal("getTokenKind(" + i + ")", x.getTokenKind(i), kinds[i]);
            Due.equal("getTokenArg(" + i + ")", x.getTokenArg(i), args[i]);
        }
        Due.equal("compile() again", x.compile(), 4);
    }

    private static void longestPrograms() {
        StringBuilder deep = new StringBuilder("FUNC");
        for (int i = 0; i < 10; i++) {
            deep.append(" TRY");
        }
        for (int i = 0; i < 10; i++) {
            deep.append(" FINALLY END");
        }
        dueOk(deep + " END");
        StringBuilder open = new StringBuilder("FUNC");
        for (int i = 0; i < 31; i++) {
            open.append(" TRY");
        }
        dueCut(open.toString());
    }

    public static void main(String[] args) {
        functions();
        tryStatements();
        argRanges();
        rethrows();
        calls();
        firstFaultWins();
        compileClearsResults();
        tokensStay();
        longestPrograms();
        Due.finish();
    }
}
