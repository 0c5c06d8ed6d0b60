/** Counts and prints the answers that are not as due. */
final class Due {
    private int wrong = 0;
    private String sentence = "";

    /** The document's words that the checks from here on hold to; they are printed with what is wrong. */
    void sentence(String where, String words) {
        sentence = where + ", \"" + words + "\": ";
    }

    void is(String call, long got, long want) {
        if (got != want) {
            wrong(call + " answered " + got + ", due is " + want);
        }
    }

    void holds(String what, boolean so) {
        if (!so) {
            wrong("does not hold: " + what);
        }
    }

    private void wrong(String what) {
        wrong++;
        System.out.println(sentence + what);
    }

    /** Each test by itself: one that throws is told of and does not keep the others from running. */
    void run(Runnable... tests) {
        for (Runnable test : tests) {
            sentence = "";
            try {
                test.run();
            } catch (RuntimeException e) {
                wrong("threw " + e);
            }
        }
        end();
    }

    void end() {
        System.out.println(wrong == 0 ? "all answers are as due" : wrong + " answers are not as due");
        if (wrong != 0) {
            System.exit(1);
        }
    }
}
