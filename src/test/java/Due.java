/** Runs the tests of the document's sentences, and counts and prints the answers that are not the due ones. */
final class Due {
    private static int wrong = 0;

    private Due() {
    }

    /** Runs the test of one sentence, and names the sentence if it does not hold. */
    static void sentence(String words, Runnable test) {
        int before = wrong;
        try {
            test.run();
        } catch (RuntimeException thrown) {
            wrong++;
            System.out.println("a call threw " + thrown);
        }
        if (wrong != before) {
            System.out.println("BROKEN: \"" + words + "\"");
        }
    }

    static void equal(String what, long got, long want) {
        if (got != want) {
            wrong++;
            System.out.println(what + " answered " + got + ", due is " + want);
        }
    }

    static void same(String what, String got, String want) {
        if (!got.equals(want)) {
            wrong++;
            System.out.println(what + " answered " + got + ", due is " + want);
        }
    }

    static void isTrue(String what, boolean got) {
        equal(what, got ? 1 : 0, 1);
    }

    static void isFalse(String what, boolean got) {
        equal(what, got ? 1 : 0, 0);
    }

    static void finish() {
        if (wrong != 0) {
            System.out.println(wrong + " answers are not as due");
            System.exit(1);
        }
    }
}
