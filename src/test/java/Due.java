import java.util.Arrays;

/** Counts and prints the answers that are not the ones that are due. */
final class Due {
    private int wrong = 0;
    private int tests = 0;

    void is(String what, long got, long want) {
        if (got != want) {
            wrong++;
            System.out.println(what + " answered " + got + ", due is " + want);
        }
    }

    void is(String what, boolean got, boolean want) {
        is(what, got ? 1L : 0L, want ? 1L : 0L);
    }

    void is(String what, int[] got, int[] want) {
        if (!Arrays.equals(got, want)) {
            wrong++;
            System.out.println(what + " gave " + Arrays.toString(got) + ", due is " + Arrays.toString(want));
        }
    }

    /** A test of one sentence of the document; what it throws doesn't keep the others from running. */
    void sentence(String where, String words, Runnable test) {
        int before = wrong;
        tests++;
        try {
            test.run();
        } catch (RuntimeException | Error thrown) {
            wrong++;
            System.out.println("threw " + thrown);
        }
        System.out.println((wrong == before ? "ok      " : "FAILED  ") + where + ": " + words);
    }

    /** Ends the program, with exit code 1 if an answer was wrong. */
    void end() {
        if (tests > 0) System.out.println(tests + " sentences tested");
        System.out.println(wrong == 0 ? "all answers are as due" : wrong + " answers are not as due");
        System.exit(wrong == 0 ? 0 : 1);
    }
}
