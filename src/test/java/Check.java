/** Counts the answers that are not due, prints them, and ends the program by them. */
final class Check {
    private String about = "";
    private int right;
    private int wrong;

    void about(String text) {
        about = text;
    }

    void same(String what, long want, long got) {
        if (want == got) {
            right++;
            return;
        }
        wrong++;
        System.out.println(about + ": " + what + " answered " + got + ", due is " + want);
    }

    void yes(String what, boolean got) {
        same(what, 1, got ? 1 : 0);
    }

    void no(String what, boolean got) {
        same(what, 0, got ? 1 : 0);
    }

    void end(String suite) {
        System.out.println(suite + ": " + right + " right, " + wrong + " wrong");
        if (wrong != 0 || right == 0) {
            System.exit(1);
        }
    }
}
