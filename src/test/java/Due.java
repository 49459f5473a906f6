/** Counts and prints the answers that are not as due. */
final class Due {
    private static final int MOST_LINES = 50;

    private String sentence = "";
    private int wrong = 0;
    private int checked = 0;

    /** Names the promise, and what it says, that the next answers are due by. */
    void by(String promiseAndSentence) {
        sentence = promiseAndSentence + ": ";
    }

    void is(String call, long got, long want) {
        checked++;
        if (got != want) {
            wrong++;
            if (wrong <= MOST_LINES) {
                System.out.println(sentence + call + " answered " + got + ", due is " + want);
            }
        }
    }

    void holds(String what, boolean truth) {
        is(what, truth ? 1 : 0, 1);
    }

    void none(String call, long got) {
        is(call, got, -1);
    }

    void bytes(String what, int[] got, int... want) {
        is(what + ", how many", got.length, want.length);
        for (int i = 0; i < Math.min(got.length, want.length); i++) {
            is(what + ", byte " + i, got[i], want[i]);
        }
    }

    /** Ends the program with exit code 1 if an answer was wrong. */
    void finish(String name) {
        System.out.println(name + ": " + checked + " checked, " + wrong + " wrong");
        if (wrong > 0 || checked == 0) {
            System.exit(1);
        }
    }
}
