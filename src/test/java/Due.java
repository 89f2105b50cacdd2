/** Counts and prints the answers that are not the ones that are due. */
final class Due {
    private final String test;
    private String sentence = "";
    private int wrong;
    private int looked;

    Due(String test) {
        this.test = test;
    }

    /** The answers from here on are due by this sentence of the document. */
    void by(String words) {
        sentence = ", \"" + words + "\"";
    }

    /** The same for a sentence outside the promises, with the promise that it bears on. */
    void by(int promise, String words) {
        sentence = ", promise " + promise + ", \"" + words + "\"";
    }

    void is(String what, long got, long want) {
        looked++;
        if (got != want) {
            wrong++;
            System.out.println(test + sentence + ": " + what + " answered " + got + ", due is " + want);
        }
    }

    void holds(String what, boolean holds) {
        is(what, holds ? 1 : 0, 1);
    }

    /** Steps of one thread, of which each must be made. */
    void steps(ClassStarter x, int t, int times) {
        for (int k = 0; k < times; k++) {
            is("step(" + t + ") number " + k, x.step(t), 1);
        }
    }

    void same(String what, String got, String want) {
        looked++;
        if (!got.equals(want)) {
            wrong++;
            System.out.println(test + sentence + ": " + what + " shows\n  " + got + "\ndue is\n  " + want);
        }
    }

    /** Ends the program: with exit code 1 if an answer was wrong, or if none was looked at. */
    void end() {
        System.out.println(test + ": " + looked + " answers, " + wrong + " wrong");
        System.exit(wrong == 0 && looked > 0 ? 0 : 1);
    }
}
