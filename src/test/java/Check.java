/** Counts and prints the answers that are not as due, and ends a test with the right exit code. */
final class Check {
    private static final int MOST_PRINTED = 40;

    private final String test;
    private int looked = 0;
    private int wrong = 0;
    private int sentences = 0;
    private String under = "";

    Check(String test) {
        this.test = test;
    }

    void due(String call, long want, long got) {
        looked++;
        if (got != want) {
            wrong++;
            if (wrong <= MOST_PRINTED) {
                System.out.println(under + call + " answered " + got + ", due is " + want);
            }
        }
    }

    void due(String call, boolean want, boolean got) {
        due(call, want ? 1 : 0, got ? 1 : 0);
    }

    /** The test of one sentence of the document; a test that looks at no answer is wrong, too. */
    void sentence(String words, Runnable test) {
        int before = looked;
        sentences++;
        under = "[" + words + "] ";
        try {
            test.run();
        } catch (RuntimeException thrown) {
            // No call may throw; the other sentences are still to be looked at.
            System.out.println(under + "threw " + thrown);
            wrong++;
        }
        if (looked == before) {
            due("this test's number of answers", 1, 0);
        }
        under = "";
    }

    void end() {
        System.out.println(test + ": " + (sentences > 0 ? sentences + " sentences, " : "")
                + looked + " answers, " + wrong + " not as due");
        if (wrong != 0 || looked == 0) {
            System.exit(1);
        }
    }
}
