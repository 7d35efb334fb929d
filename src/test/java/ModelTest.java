import java.util.Arrays;

/** Promises 4, 5 and 8 to 10: many programs, each compared with Model. The programs are always the same. */
public final class ModelTest {
    private static final int[] ALPHABET_KINDS = {1, 2, 3, 4, 5, 7, 8, 10, 11};
    private static final int[] ALPHABET_ARGS = {0, 0, 0, 1, 0, 5, 1, 0, 1};
    private static final int[] INPUTS = {0, 1, -1, 2, Integer.MAX_VALUE};

    private static long seed = 20261115;
    private static int validPrograms = 0;
    private static int uncaughtRuns = 0;
    private static int caughtRuns = 0;
    private static int abandoningRuns = 0;

    private final int[] kinds = new int[32];
    private final int[] args = new int[32];
    private int count;

    private static int pick(int n) {
        seed = seed * 6364136223846793005L + 1442695040888963407L;
        return (int) ((seed >>> 33) % n);
    }

    private static void compare(int[] kinds, int[] args, TwoPhaseUnwind x, int capacity) {
        x.reset();
        for (int i = 0; i < kinds.length; i++) {
            x.addToken(kinds[i], args[i]);
        }
        Model model = new Model(kinds, args, capacity);
        int want = model.compile();
        int got = x.compile();
        if (got != want) {
            Due.equal("compile of " + Arrays.toString(kinds) + Arrays.toString(args), got, want);
        }
        if (got != want || want != -1) {
            return;
        }
        validPrograms++;
        Due.equal("getFunctionCount()", x.getFunctionCount(), model.functionCount());
        for (int input : INPUTS) {
            compareRun(x, model, input, kinds, args);
        }
    }

    private static void compareRun(TwoPhaseUnwind x, Model model, int input, int[] kinds, int[] args) {
        Due.isTrue("run(" + input + ")", x.run(input));
        model.run(input);
        uncaughtRuns += model.status == 2 ? 1 : 0;
        caughtRuns += model.catches > 0 ? 1 : 0;
        abandoningRuns += model.abandoned > 0 ? 1 : 0;
        boolean same = x.getStatus() == model.status && x.getResult() == model.acc
                && x.getUncaughtType() == model.type && x.getCatchRuns() == model.catches
                && x.getFinallyRuns() == model.finallys && x.getTraceLength() == model.trace.size();
        for (int i = 0; same && i < model.trace.size(); i++) {
            same = x.getTrace(i) == model.trace.get(i);
        }
        if (!same) {
            Due.isTrue("run(" + input + ") as the model, of " + Arrays.toString(kinds) + Arrays.toString(args)
                    + ": " + Program.outcome(x) + " against status " + model.status + " type " + model.type
                    + " acc " + model.acc + " trace " + model.trace + " catches " + model.catches
                    + " finallys " + model.finallys + ";", false);
        }
    }

    /** Every sequence of up to length tokens of the alphabet behind a first FUNC. */
    private static void allShortPrograms(int length) {
        TwoPhaseUnwind x = new TwoPhaseUnwind(8, 4);
        int total = 1;
        for (int n = 0; n <= length; n++) {
            for (int code = 0; code < total; code++) {
                int[] kinds = new int[n + 1];
                int[] args = new int[n + 1];
                kinds[0] = 1;
                int rest = code;
                for (int i = 1; i <= n; i++) {
                    kinds[i] = ALPHABET_KINDS[rest % ALPHABET_KINDS.length];
                    args[i] = ALPHABET_ARGS[rest % ALPHABET_KINDS.length];
                    rest /= ALPHABET_KINDS.length;
                }
                compare(kinds, args, x, 4);
            }
            total *= ALPHABET_KINDS.length;
        }
    }

    private void put(int kind, int arg) {
        kinds[count] = kind;
        args[count] = arg;
        count++;
    }

    /** Puts random tokens that fit, and leaves room to close what is open and for the functions called. */
    private void grow() {
        int[] part = new int[32];
        int open = 0;
        int function = 0;
        put(1, 0);
        // An open try needs a clause and an END, a function that is still to come FUNC and END.
        while (count + 2 * open + 2 * (3 - function) + 4 <= 32 && pick(40) > 0) {
            int choice = pick(20);
            if (choice < 6) {
                put(3, 0);
                part[open++] = 1;
            } else if (choice < 11 && open > 0 && part[open - 1] < 3) {
                boolean last = pick(3) == 0;
                put(last ? 5 : 4, pick(3));
                part[open - 1] = last ? 3 : 2;
            } else if (choice < 13 && open > 0 && part[open - 1] > 1) {
                put(2, 0);
                open--;
            } else if (choice < 14 && open == 0 && function < 3) {
                put(2, 0);
                put(1, 0);
                function++;
            } else {
                putSimple(function, part, open);
            }
        }
        close(part, open);
    }

    private void putSimple(int function, int[] part, int open) {
        boolean inCatch = false;
        for (int i = 0; i < open; i++) {
            inCatch |= part[i] == 2;
        }
        // A throw in the open would end most runs before they get anywhere.
        int choice = function == 0 && open == 0 ? pick(2) : pick(7);
        if (choice == 0) {
            put(6, pick(3) - 1);
        } else if (choice == 1) {
            put(7, pick(100));
        } else if (choice == 2) {
            put(8, 1 + pick(2));
        } else if (choice == 3) {
            put(9, 1 + pick(2));
        } else if (choice == 4 && inCatch) {
            put(10, 0);
        } else if (function < 3) {
            put(11, function + 1 + pick(3 - function));
        }
    }

    private void close(int[] part, int open) {
        for (int i = open - 1; i >= 0; i--) {
            if (part[i] == 1) {
                put(pick(2) == 0 ? 5 : 4, pick(3));
            }
            put(2, 0);
        }
        put(2, 0);
        int highestCall = 0;
        int functions = 0;
        for (int i = 0; i < count; i++) {
            functions += kinds[i] == 1 ? 1 : 0;
            highestCall = kinds[i] == 11 ? Math.max(highestCall, args[i]) : highestCall;
        }
        for (; functions <= highestCall; functions++) {
            put(1, 0);
            if (count + 1 + 2 * (highestCall - functions) < 32) {
                put(8 + pick(2), 1 + pick(2));
            }
            put(2, 0);
        }
    }

    private static void longPrograms(int rounds) {
        TwoPhaseUnwind wide = new TwoPhaseUnwind(32, 32);
        TwoPhaseUnwind narrow = new TwoPhaseUnwind(32, 3);
        for (int round = 0; round < rounds; round++) {
            ModelTest t = new ModelTest();
            t.grow();
            int[] kinds = Arrays.copyOf(t.kinds, t.count);
            int[] args = Arrays.copyOf(t.args, t.count);
            compare(kinds, args, wide, 32);
            compare(kinds, args, narrow, 3);
            int spot = pick(t.count);
            kinds[spot] = 1 + pick(11);
            args[spot] = pick(20) - 2;
            compare(kinds, args, wide, 32);
        }
    }

    public static void main(String[] args) {
        allShortPrograms(5);
        longPrograms(200000);
        // The comparison is worth little unless many of the programs are valid and throw.
        Due.isTrue("many valid programs: " + validPrograms, validPrograms > 100000);
        Due.isTrue("many uncaught runs: " + uncaughtRuns, uncaughtRuns > 100000);
        Due.isTrue("many runs with a catch: " + caughtRuns, caughtRuns > 100000);
        Due.isTrue("many runs that abandon a type: " + abandoningRuns, abandoningRuns > 2000);
        Due.finish();
    }
}
