import java.util.Arrays;

/** Promises 4, 5 and 8 to 10: many programs, each compared with Model. The programs are always the same. */
public final class ModelTest {
    private static final int[] ALPHABET_KINDS = {1, 2, 3, 4, 5, 7, 8, 10, 11};
    private static final int[] ALPHABET_ARGS = {0, 0, 0, 1, 0, 5, 1, 0, 1};
    private static final int[] INPUTS = {0, 1, -1, 2, Integer.MAX_VALUE};

    private static int validPrograms = 0;
    private static int uncaughtRuns = 0;
    private static int caughtRuns = 0;
    private static int abandoningRuns = 0;

    private static void compare(int[] kinds, int[] args, TwoPhaseUnwind x, int capacity) {
        x.reset();
        for (int i = 0; i < kinds.length; i++) {
            x.addToken(kinds[i], args[i]);
        }
        Model model = new Model(kinds, args, capacity);
        int want = model.compile();
        int got = x.compile();
        if (got != want) {
            Due.equal("compile of " + Arrays.toString(kinds) + Arrays.toString(args), got, want);
        }
        if (got != want || want != -1) {
            return;
        }
        validPrograms++;
        Due.equal("getFunctionCount()", x.getFunctionCount(), model.functionCount());
        for (int input : INPUTS) {
            compareRun(x, model, input, kinds, args);
        }
    }

    private static void compareRun(TwoPhaseUnwind x, Model model, int input, int[] kinds, int[] args) {
        Due.isTrue("run(" + input + ")", x.run(input));
        model.run(input);
        uncaughtRuns += model.status == 2 ? 1 : 0;
        caughtRuns += model.catches > 0 ? 1 : 0;
        abandoningRuns += model.abandoned > 0 ? 1 : 0;
        boolean same = x.getStatus() == model.status && x.getResult() == model.acc
                && x.getUncaughtType() == model.type && x.getCatchRuns() == model.catches
                && x.getFinallyRuns() == model.finallys && x.getTraceLength() == model.trace.size();
        for (int i = 0; same && i < model.trace.size(); i++) {
            same = x.getTrace(i) == model.trace.get(i);
        }
        if (!same) {
            Due.isTrue("run(" + input + ") as the model, of " + Arrays.toString(kinds) + Arrays.toString(args)
                    + ": " + Program.outcome(x) + " against status " + model.status + " type " + model.type
                    + " acc " + model.acc + " trace " + model.trace + " catches " + model.catches
                    + " finallys " + model.finallys + ";", false);
        }
    }

    /** Every sequence of up to length tokens of the alphabet behind a first FUNC. */
    private static void allShortPrograms(int length) {
        TwoPhaseUnwind x = new TwoPhaseUnwind(8, 4);
        int total = 1;
        for (int n = 0; n <= length; n++) {
            for (int code = 0; code < total; code++) {
                int[] kinds = new int[n + 1];
                int[] args = new int[n + 1];
                kinds[0] = 1;
                int rest = code;
                for (int i = 1; i <= n; i++) {
                    kinds[i] = ALPHABET_KINDS[rest % ALPHABET_KINDS.length];
                    args[i] = ALPHABET_ARGS[rest % ALPHABET_KINDS.length];
                    rest /= ALPHABET_KINDS.length;
                }
                compare(kinds, args, x, 4);
            }
            total *= ALPHABET_KINDS.length;
        }
    }

    private static void longPrograms(int rounds) {
        TwoPhaseUnwind wide = new TwoPhaseUnwind(32, 32);
        TwoPhaseUnwind narrow = new TwoPhaseUnwind(32, 3);
        RandomProgram random = new RandomProgram(20261115);
        for (int round = 0; round < rounds; round++) {
            random.next();
            int[] kinds = random.kinds();
            int[] args = random.args();
            compare(kinds, args, wide, 32);
            compare(kinds, args, narrow, 3);
            int spot = random.pick(kinds.length);
            kinds[spot] = 1 + random.pick(11);
            args[spot] = random.pick(20) - 2;
            compare(kinds, args, wide, 32);
        }
    }

    public static void main(String[] args) {
        allShortPrograms(5);
        longPrograms(200000);
        // The comparison is worth little unless many of the programs are valid and throw.
        Due.isTrue("many valid programs: " + validPrograms, validPrograms > 100000);
        Due.isTrue("many uncaught runs: " + uncaughtRuns, uncaughtRuns > 100000);
        Due.isTrue("many runs with a catch: " + caughtRuns, caughtRuns > 100000);
        Due.isTrue("many runs that abandon a type: " + abandoningRuns, abandoningRuns > 2000);
        Due.finish();
    }
}
