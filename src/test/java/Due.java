/** Counts and prints the answers that are not as due. */
final class Due {
    private int wrong = 0;
    private int checked = 0;

    void is(String call, long got, long want) {
        checked++;
        if (got != want) {
            wrong++;
            if (wrong <= 50) {
                System.out.println(call + " answered " + got + ", due is " + want);
            }
        }
    }

    void holds(String what, boolean truth) {
        is(what, truth ? 1 : 0, 1);
    }

    /** Ends the program with exit code 1 if an answer was wrong. */
    void finish(String name) {
        System.out.println(name + ": " + checked + " checked, " + wrong + " wrong");
        if (wrong > 0 || checked == 0) {
            System.exit(1);
        }
    }
}
