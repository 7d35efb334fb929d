/** Valid programs that throw, catch and call much: pseudo-random, and the same ones for the same seed. */
final class RandomProgram {
    private long seed;
    private final int[] kinds = new int[32];
    private final int[] args = new int[32];
    private int count;

    RandomProgram(long seed) {
        this.seed = seed;
    }

    int pick(int n) {
        seed = seed * 6364136223846793005L + 1442695040888963407L;
        return (int) ((seed >>> 33) % n);
    }

    int[] kinds() {
        return java.util.Arrays.copyOf(kinds, count);
    }

    int[] args() {
        return java.util.Arrays.copyOf(args, count);
    }

    private void put(int kind, int arg) {
        kinds[count] = kind;
        args[count] = arg;
        count++;
    }

    /** Makes the next program: random tokens that fit, with room to close what is open and for functions called. */
    void next() {
        count = 0;
        int[] part = new int[32];
        int open = 0;
        int function = 0;
        put(1, 0);
        // An open try needs a clause and an END, a function that is still to come FUNC and END.
        while (count + 2 * open + 2 * (3 - function) + 4 <= 32 && pick(40) > 0) {
            int choice = pick(20);
            if (choice < 6) {
                put(3, 0);
                part[open++] = 1;
            } else if (choice < 11 && open > 0 && part[open - 1] < 3) {
                boolean last = pick(3) == 0;
                put(last ? 5 : 4, pick(3));
                part[open - 1] = last ? 3 : 2;
            } else if (choice < 13 && open > 0 && part[open - 1] > 1) {
                put(2, 0);
                open--;
            } else if (choice < 14 && open == 0 && function < 3) {
                put(2, 0);
                put(1, 0);
                function++;
            } else {
                putSimple(function, part, open);
            }
        }
        close(part, open);
    }

    private void putSimple(int function, int[] part, int open) {
        boolean inCatch = false;
        for (int i = 0; i < open; i++) {
            inCatch |= part[i] == 2;
        }
        // A throw in the open would end most runs before they get anywhere.
        int choice = function == 0 && open == 0 ? pick(2) : pick(7);
        if (choice == 0) {
            put(6, pick(3) - 1);
        } else if (choice == 1) {
            put(7, pick(100));
        } else if (choice == 2) {
            put(8, 1 + pick(2));
        } else if (choice == 3) {
            put(9, 1 + pick(2));
        } else if (choice == 4 && inCatch) {
            put(10, 0);
        } else if (function < 3) {
            put(11, function + 1 + pick(3 - function));
        }
    }

    private void close(int[] part, int open) {
        for (int i = open - 1; i >= 0; i--) {
            if (part[i] == 1) {
                put(pick(2) == 0 ? 5 : 4, pick(3));
            }
            put(2, 0);
        }
        put(2, 0);
        int highestCall = 0;
        int functions = 0;
        for (int i = 0; i < count; i++) {
            functions += kinds[i] == 1 ? 1 : 0;
            highestCall = kinds[i] == 11 ? Math.max(highestCall, args[i]) : highestCall;
        }
        for (; functions <= highestCall; functions++) {
            put(1, 0);
            if (count + 1 + 2 * (highestCall - functions) < 32) {
                put(8 + pick(2), 1 + pick(2));
            }
            put(2, 0);
        }
    }
}
