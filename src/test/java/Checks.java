/** Counts the answers that are not as due and ends the test with exit code 1 if there were any. */
final class Checks {
    private String about = "";
    private int made = 0;
    private int wrong = 0;

    /** What the checks after this are about: their messages begin with it. */
    void about(String words) {
        about = words + ": ";
    }

    void due(String what, long got, long want) {
        count(what, got == want, got, want);
    }

    void due(String what, boolean got, boolean want) {
        count(what, got == want, got, want);
    }

    void due(String what, String got, String want) {
        count(what, got.equals(want), got, want);
    }

    private void count(String what, boolean right, Object got, Object want) {
        made++;
        if (!right) {
            wrong++;
            System.out.println(about + what + " answered " + got + ", due is " + want);
        }
    }

    int made() {
        return made;
    }

    void end() {
        System.out.println(made + " checks, " + wrong + " wrong");
        if (wrong != 0 || made == 0) {
            System.exit(1);
        }
    }
}
