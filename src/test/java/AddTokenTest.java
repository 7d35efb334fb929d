import java.util.ArrayList;
import java.util.List;

/** Promise 3: what addToken takes, what it refuses, and what each changes. */
public final class AddTokenTest {
    private static final int MIN = Integer.MIN_VALUE;
    private static final int MAX = Integer.MAX_VALUE;
    /** The edges, and ints that a narrower type would fold into 1..11. */
    private static final int[] WRONG_KINDS = {MIN, MIN + 1, MIN + 7, -65535, -256 + 7, -11, -2, -1, 0, 12, 13, 15, 16,
        17, 32, 128 + 7, 256 + 7, 65536 + 7, MAX - 1, MAX};
    private static final int[] ARGS = {0, 1, 15, 16, -1, 128, 255, 256, 32768, 65536, MIN, MIN + 1, MAX - 1, MAX};

    private static void fullRefuses() {
        for (int maxTokens = 8; maxTokens <= 32; maxTokens++) {
            TwoPhaseUnwind x = new TwoPhaseUnwind(maxTokens, 1);
            for (int i = 0; i < maxTokens; i++) {
                Due.isTrue("addToken " + i + " of " + maxTokens, x.addToken(i % 11 + 1, i));
            }
            for (int kind = 1; kind <= 11; kind++) {
                Due.isFalse("addToken(" + kind + ", 0) beyond " + maxTokens, x.addToken(kind, 0));
                Due.equal("getTokenCount()", x.getTokenCount(), maxTokens);
            }
            x.reset();
            Due.isTrue("addToken after reset", x.addToken(1, 0));
        }
    }

    private static void wrongKindRefused() {
        TwoPhaseUnwind x = new TwoPhaseUnwind(8, 1);
        for (int tokens = 0; tokens < 8; tokens++) {
            for (int kind : WRONG_KINDS) {
                Due.isFalse("addToken(" + kind + ", 1)", x.addToken(kind, 1));
                Due.equal("getTokenCount()", x.getTokenCount(), tokens);
            }
            Due.isTrue("addToken", x.addToken(TwoPhaseUnwind.T_ADD, 1));
        }
    }

    private static void everyKindTaken() {
        for (int kind = 1; kind <= 11; kind++) {
            TwoPhaseUnwind x = new TwoPhaseUnwind(8, 1);
            Due.isTrue("addToken(" + kind + ", 0)", x.addToken(kind, 0));
            Due.equal("getTokenCount()", x.getTokenCount(), 1);
            Due.equal("getTokenKind(0)", x.getTokenKind(0), kind);
        }
    }

    /** Both tests answer false, so all that shows of their order is that a full object refuses both. */
    private static void fullAndWrongKind() {
        for (int kind : WRONG_KINDS) {
            States.dueChangesNothing(AddTokenTest::fullStates,
                    x -> Due.isFalse("addToken(" + kind + ", 5) when full", x.addToken(kind, 5)));
        }
    }

    private static void wrongKindChangesNothing() {
        for (int kind : WRONG_KINDS) {
            States.dueChangesNothing(x -> Due.isFalse("addToken(" + kind + ", 5)", x.addToken(kind, 5)));
        }
    }

    private static List<States.State> fullStates() {
        List<States.State> full = new ArrayList<>();
        for (States.State state : States.all()) {
            if (state.x().getTokenCount() == state.maxTokens()) {
                full.add(state);
            }
        }
        return full;
    }

    private static void fullChangesNothing() {
        Due.equal("full objects: not compiled, refused by compile, compiled, and run", fullStates().size(), 4);
        for (int kind = 1; kind <= 11; kind++) {
            int taken = kind;
            States.dueChangesNothing(AddTokenTest::fullStates,
                    x -> Due.isFalse("addToken(" + taken + ", 5) when full", x.addToken(taken, 5)));
        }
    }

    private static void anyArgAnyKind() {
        for (int kind = 1; kind <= 11; kind++) {
            TwoPhaseUnwind x = new TwoPhaseUnwind(32, 1);
            for (int i = 0; i < ARGS.length; i++) {
                Due.isTrue("addToken(" + kind + ", " + ARGS[i] + ")", x.addToken(kind, ARGS[i]));
                Due.equal("getTokenKind(" + i + ")", x.getTokenKind(i), kind);
                Due.equal("getTokenArg(" + i + ")", x.getTokenArg(i), ARGS[i]);
            }
        }
    }

    private static void neverRefusedForItsArg() {
        // Args that compile refuses wherever the token stands, on an object that holds a program.
        int[] kinds = {4, 4, 4, 4, 8, 8, 8, 8, 9, 9, 9, 9, 11, 11, 11, 11};
        int[] args = {-1, 16, MIN, MAX, 0, 16, MIN, MAX, 0, 16, MIN, MAX, 0, 4, MIN, MAX};
        for (int i = 0; i < kinds.length; i++) {
            TwoPhaseUnwind x = Program.ran(Program.BUSY, 1);
            Due.isTrue("addToken(" + kinds[i] + ", " + args[i] + ")", x.addToken(kinds[i], args[i]));
            Due.equal("getTokenArg(9)", x.getTokenArg(9), args[i]);
        }
    }

    private static void taken(boolean compiledFirst) {
        List<States.State> states = compiledFirst ? States.compiledButNotRun() : States.afterARun();
        int tried = 0;
        for (States.State state : states) {
            TwoPhaseUnwind x = state.x();
            if (x.getTokenCount() < state.maxTokens()) {
                Due.isTrue(state.name() + ": addToken(T_FUNC, 77)", x.addToken(TwoPhaseUnwind.T_FUNC, 77));
                Program.dueNotCompiled(state.name() + ", a token added", x);
                Program.dueCleared(state.name() + ", a token added", x);
                Due.isFalse(state.name() + ", a token added: run(1)", x.run(1));
                tried++;
            }
        }
        Due.isTrue("objects with room: " + tried, tried >= 3);
    }

    private static void takenAtTheEndOfAProgram() {
        TwoPhaseUnwind x = Program.ran(Program.BUSY, 1);
        Program.add(x, "FUNC END");
        Program.dueNotCompiled("two tokens added", x);
        Due.equal("compile()", x.compile(), TwoPhaseUnwind.COMPILE_OK);
        Due.equal("getFunctionCount()", x.getFunctionCount(), 2);
    }

    private static void growsByOne() {
        for (States.State state : States.all()) {
            TwoPhaseUnwind x = state.x();
            int before = x.getTokenCount();
            boolean room = before < state.maxTokens();
            Due.equal(state.name() + ": addToken", x.addToken(TwoPhaseUnwind.T_END, MIN) ? 1 : 0, room ? 1 : 0);
            Due.equal(state.name() + ": getTokenCount()", x.getTokenCount(), before + (room ? 1 : 0));
        }
    }

    private static void earlierTokensStay() {
        for (int maxTokens = 8; maxTokens <= 32; maxTokens++) {
            TwoPhaseUnwind x = new TwoPhaseUnwind(maxTokens, 1);
            for (int n = 0; n < maxTokens; n++) {
                x.addToken((n * 5) % 11 + 1, ARGS[n % ARGS.length]);
                for (int i = 0; i <= n; i++) {
                    Due.equal("getTokenKind(" + i + ")", x.getTokenKind(i), (i * 5) % 11 + 1);
                    Due.equal("getTokenArg(" + i + ")", x.getTokenArg(i), ARGS[i % ARGS.length]);
                }
            }
        }
    }

    public static void main(String[] args) {
        Due.sentence("If the token count already equals maxTokens, it answers false", AddTokenTest::fullRefuses);
        Due.sentence("If kind is not in 1..11, it answers false", AddTokenTest::wrongKindRefused);
        Due.sentence("Otherwise it appends and answers true: every kind in 1..11", AddTokenTest::everyKindTaken);
        Due.sentence("tests in this order", AddTokenTest::fullAndWrongKind);
        Due.sentence("A refused call changes nothing at all: kind not in 1..11", AddTokenTest::wrongKindChangesNothing);
        Due.sentence("A refused call changes nothing at all: full", AddTokenTest::fullChangesNothing);
        Due.sentence("The arg is stored unchanged whatever its value, also for kinds whose arg is ignored",
                AddTokenTest::anyArgAnyKind);
        Due.sentence("addToken never refuses a token because of its arg", AddTokenTest::neverRefusedForItsArg);
        Due.sentence("A successful call also sets not compiled and function count 0: after a compile",
                () -> taken(true));
        Due.sentence("A successful call also clears the results: after a run", () -> taken(false));
        Due.sentence("A successful call: the program can be compiled anew", AddTokenTest::takenAtTheEndOfAProgram);
        Due.sentence("The token count grows by exactly 1", AddTokenTest::growsByOne);
        Due.sentence("earlier tokens do not change", AddTokenTest::earlierTokensStay);
        Due.finish();
    }
}
