import java.util.List;

/** Programs as text: tokens by name, an arg behind a colon, as in "FUNC THROW:3 END". */
final class Program {
    private static final List<String> NAMES = List.of("", "FUNC", "END", "TRY", "CATCH", "FINALLY", "ADD",
            "MARK", "THROW", "THROWNZ", "RETHROW", "CALL");

    private Program() {
    }

    /**
     * Leaves every result non-zero when run with 1: UNCAUGHT 4, acc 1, one mark, one catch, one finally.
     * Its nine tokens have args also where they are ignored.
     */
    static final String BUSY = "FUNC:21 TRY:-22 THROWNZ:3 CATCH:3 MARK:7 FINALLY:23 END:-24 THROWNZ:4 END:25";

    /** Runs to NORMAL with acc 1 through four functions, with two marks, one catch and one finally. */
    static final String FOUR = "FUNC TRY CALL:1 CATCH:0 MARK:8 FINALLY MARK:9 END END"
            + " FUNC CALL:2 END FUNC CALL:3 END FUNC THROWNZ:6 END";

    /** Runs sixty marks: function 0 calls function 1 six times, which has ten. */
    static final String MARKS_60 = "FUNC CALL:1 CALL:1 CALL:1 CALL:1 CALL:1 CALL:1 END"
            + " FUNC MARK:1 MARK:2 MARK:3 MARK:4 MARK:5 MARK:6 MARK:7 MARK:8 MARK:9 MARK:10 END";

    /** Adds the tokens of the text to x; every one of them must be taken. */
    static TwoPhaseUnwind add(TwoPhaseUnwind x, String text) {
        for (String word : text.trim().split("\\s+")) {
            if (!word.isEmpty()) {
                String[] parts = word.split(":");
                int kind = NAMES.indexOf(parts[0]);
                int arg = parts.length > 1 ? Integer.parseInt(parts[1]) : 0;
                Due.isTrue("addToken " + word + " of [" + text + "]", x.addToken(kind, arg));
            }
        }
        return x;
    }

    static TwoPhaseUnwind of(String text) {
        return add(new TwoPhaseUnwind(32, 32), text);
    }

    static TwoPhaseUnwind compiled(String text) {
        TwoPhaseUnwind x = of(text);
        Due.equal("compile of [" + text + "]", x.compile(), TwoPhaseUnwind.COMPILE_OK);
        return x;
    }

    static TwoPhaseUnwind ran(String text, int input) {
        TwoPhaseUnwind x = compiled(text);
        Due.isTrue("run(" + input + ") of [" + text + "]", x.run(input));
        return x;
    }

    /** The state after a run in one line, such as "NORMAL acc=1 trace=[20 10] catches=1 finallys=3". */
    static String outcome(TwoPhaseUnwind x) {
        StringBuilder line = new StringBuilder();
        switch (x.getStatus()) {
            case TwoPhaseUnwind.STATUS_NONE -> line.append("NONE");
            case TwoPhaseUnwind.STATUS_NORMAL -> line.append("NORMAL");
            case TwoPhaseUnwind.STATUS_UNCAUGHT -> line.append("UNCAUGHT");
            default -> line.append("status ").append(x.getStatus());
        }
        if (x.getUncaughtType() != 0) {
            line.append(" type=").append(x.getUncaughtType());
        }
        line.append(" acc=").append(x.getResult()).append(" trace=[");
        for (int i = 0; i < x.getTraceLength(); i++) {
            line.append(i == 0 ? "" : " ").append(x.getTrace(i));
        }
        line.append("] catches=").append(x.getCatchRuns());
        return line.append(" finallys=").append(x.getFinallyRuns()).toString();
    }

    /** Compiles and runs the text, and compares what comes out with the due line. */
    static void due(String text, int input, String want) {
        Due.same("run(" + input + ") of [" + text + "]", outcome(ran(text, input)), want);
    }

    static void dueCleared(String when, TwoPhaseUnwind x) {
        Due.equal(when + ": getStatus()", x.getStatus(), TwoPhaseUnwind.STATUS_NONE);
        Due.equal(when + ": getResult()", x.getResult(), 0);
        Due.equal(when + ": getUncaughtType()", x.getUncaughtType(), 0);
        Due.equal(when + ": getTraceLength()", x.getTraceLength(), 0);
        Due.equal(when + ": getTrace(0)", x.getTrace(0), 0);
        Due.equal(when + ": getCatchRuns()", x.getCatchRuns(), 0);
        Due.equal(when + ": getFinallyRuns()", x.getFinallyRuns(), 0);
    }

    static void dueNotCompiled(String when, TwoPhaseUnwind x) {
        Due.isFalse(when + ": isCompiled()", x.isCompiled());
        Due.equal(when + ": getFunctionCount()", x.getFunctionCount(), 0);
    }
}
