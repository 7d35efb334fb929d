import java.util.function.IntUnaryOperator;

/** Promise 6: getTokenCount, getTokenKind and getTokenArg, a test for each sentence. */
public final class TokenGettersTest {
    private static final int MIN = Integer.MIN_VALUE;
    private static final int MAX = Integer.MAX_VALUE;
    private static final int[] ARGS = {0, 1, -1, 15, 255, 256, 65536, -65536, MIN, MIN + 1, MAX - 1, MAX};

    private static int kindOf(int i) {
        return i * 7 % 11 + 1;
    }

    private static int argOf(int i) {
        return i * 0x10001 - 7;
    }

    private static TwoPhaseUnwind holding(int tokens, int maxTokens) {
        TwoPhaseUnwind x = new TwoPhaseUnwind(maxTokens, 1);
        for (int i = 0; i < tokens; i++) {
            Due.isTrue("addToken " + i, x.addToken(kindOf(i), argOf(i)));
        }
        return x;
    }

    private static void counts() {
        for (int maxTokens = 8; maxTokens <= 32; maxTokens++) {
            for (int tokens = 0; tokens <= maxTokens; tokens++) {
                TwoPhaseUnwind x = holding(tokens, maxTokens);
                Due.equal("getTokenCount()", x.getTokenCount(), tokens);
                x.addToken(0, 1);
                Due.equal("getTokenCount() after a wrong kind", x.getTokenCount(), tokens);
            }
            TwoPhaseUnwind full = holding(maxTokens, maxTokens);
            full.addToken(1, 1);
            Due.equal("getTokenCount() after a token too many", full.getTokenCount(), maxTokens);
        }
    }

    private static void inside() {
        for (int tokens = 1; tokens <= 32; tokens++) {
            TwoPhaseUnwind x = holding(tokens, 32);
            for (int i = 0; i < tokens; i++) {
                Due.equal("getTokenKind(" + i + ") of " + tokens, x.getTokenKind(i), kindOf(i));
                Due.equal("getTokenArg(" + i + ") of " + tokens, x.getTokenArg(i), argOf(i));
            }
        }
    }

    private static void exactArgs() {
        for (int kind = 1; kind <= 11; kind++) {
            TwoPhaseUnwind x = new TwoPhaseUnwind(32, 1);
            for (int i = 0; i < ARGS.length; i++) {
                x.addToken(kind, ARGS[i]);
            }
            x.compile();
            for (int i = 0; i < ARGS.length; i++) {
                Due.equal("getTokenArg(" + i + ") of kind " + kind, x.getTokenArg(i), ARGS[i]);
            }
        }
    }

    private static void dueZero(String what, IntUnaryOperator getter, int... indexes) {
        for (int i : indexes) {
            Due.equal(what + "(" + i + ")", getter.applyAsInt(i), 0);
        }
    }

    private static void dueZero(TwoPhaseUnwind x, int... indexes) {
        dueZero("getTokenKind", x::getTokenKind, indexes);
        dueZero("getTokenArg", x::getTokenArg, indexes);
    }

    private static void negative() {
        for (int tokens = 0; tokens <= 32; tokens++) {
            TwoPhaseUnwind x = holding(tokens, 32);
            for (int i = -70; i < 0; i++) {
                dueZero(x, i);
            }
            dueZero(x, MIN, MIN + 1, MIN + 32, -65536, -65535, -256, -255);
        }
    }

    /** Also where the class has room for more tokens than the object. */
    private static void atTheCountAndBeyond() {
        for (int maxTokens = 8; maxTokens <= 32; maxTokens++) {
            for (int tokens = 0; tokens <= maxTokens; tokens++) {
                TwoPhaseUnwind x = holding(tokens, maxTokens);
                for (int i = tokens; i < 70; i++) {
                    dueZero(x, i);
                }
                dueZero(x, 256, 257, 65536, 65537, MAX - 1, MAX);
            }
        }
    }

    private static void removedTokens() {
        TwoPhaseUnwind x = holding(32, 32);
        x.reset();
        for (int i = 0; i < 33; i++) {
            dueZero(x, i);
        }
        Program.add(x, "MARK:4");
        Due.equal("getTokenKind(0)", x.getTokenKind(0), TwoPhaseUnwind.T_MARK);
        Due.equal("getTokenArg(0)", x.getTokenArg(0), 4);
        for (int i = 1; i < 33; i++) {
            dueZero(x, i);
        }
    }

    private static void refusedTokens() {
        TwoPhaseUnwind x = holding(5, 8);
        x.addToken(12, 77);
        dueZero(x, 5);
        TwoPhaseUnwind full = holding(8, 8);
        full.addToken(7, 77);
        dueZero(full, 8);
        Due.equal("getTokenArg(7) of a full object", full.getTokenArg(7), argOf(7));
    }

    public static void main(String[] args) {
        Due.sentence("getTokenCount() answers the number of tokens held, 0..maxTokens", TokenGettersTest::counts);
        Due.sentence("answers the kind and the arg of token i if 0 <= i < getTokenCount()", TokenGettersTest::inside);
        Due.sentence("answers the arg of token i, exactly as it was added", TokenGettersTest::exactArgs);
        Due.sentence("else 0: every negative i", TokenGettersTest::negative);
        Due.sentence("else 0: every i at or beyond the count", TokenGettersTest::atTheCountAndBeyond);
        Due.sentence("else 0: tokens that reset removed", TokenGettersTest::removedTokens);
        Due.sentence("else 0: tokens that were refused", TokenGettersTest::refusedTokens);
        Due.sentence("getTokenCount changes nothing", () -> States.dueChangesNothing(TwoPhaseUnwind::getTokenCount));
        Due.sentence("getTokenKind changes nothing",
                () -> States.dueChangesNothing(x -> States.atEveryIndex(x::getTokenKind)));
        Due.sentence("getTokenArg changes nothing",
                () -> States.dueChangesNothing(x -> States.atEveryIndex(x::getTokenArg)));
        Due.finish();
    }
}
