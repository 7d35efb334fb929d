/** Promise 6: getTokenCount, getTokenKind and getTokenArg. */
public final class TokenGettersTest {
    private static final int[] OUTSIDE = {-1, -2, -32, Integer.MIN_VALUE, 32, 33, 100, Integer.MAX_VALUE};

    private static void dueZero(TwoPhaseUnwind x, int i) {
        Due.equal("getTokenKind(" + i + ")", x.getTokenKind(i), 0);
        Due.equal("getTokenArg(" + i + ")", x.getTokenArg(i), 0);
    }

    private static void dueOutside(TwoPhaseUnwind x) {
        for (int i : OUTSIDE) {
            dueZero(x, i);
        }
        for (int i = x.getTokenCount(); i <= 33; i++) {
            dueZero(x, i);
        }
    }

    private static int argOf(int i) {
        return i * 0x10001 - 7;
    }

    private static void whileFilling() {
        TwoPhaseUnwind x = new TwoPhaseUnwind(32, 1);
        for (int n = 0; n < 32; n++) {
            Due.equal("getTokenCount()", x.getTokenCount(), n);
            dueOutside(x);
            Due.isTrue("addToken", x.addToken(n % 11 + 1, argOf(n)));
            for (int i = 0; i <= n; i++) {
                Due.equal("getTokenKind(" + i + ")", x.getTokenKind(i), i % 11 + 1);
                Due.equal("getTokenArg(" + i + ")", x.getTokenArg(i), argOf(i));
            }
        }
        Due.equal("getTokenCount()", x.getTokenCount(), 32);
        dueOutside(x);
    }

    private static void oldTokensDoNotShowAfterReset() {
        TwoPhaseUnwind x = Program.of("FUNC:1 ADD:2 END:3");
        x.reset();
        dueOutside(x);
        Program.add(x, "MARK:4");
        Due.equal("getTokenKind(0)", x.getTokenKind(0), TwoPhaseUnwind.T_MARK);
        Due.equal("getTokenArg(0)", x.getTokenArg(0), 4);
        dueOutside(x);
    }

    private static void gettersChangeNothing() {
        TwoPhaseUnwind x = Program.ran(Program.BUSY, 1);
        String before = Program.outcome(x);
        int tokens = x.getTokenCount();
        dueOutside(x);
        Due.isTrue("results stay", Program.outcome(x).equals(before));
        Due.isTrue("isCompiled()", x.isCompiled());
        Due.equal("getTokenCount()", x.getTokenCount(), tokens);
    }

    public static void main(String[] args) {
        whileFilling();
        oldTokensDoNotShowAfterReset();
        gettersChangeNothing();
        Due.finish();
    }
}
