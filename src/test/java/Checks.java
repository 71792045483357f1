/** Counts and prints the answers that are not as due. */
final class Checks {
    private final String title;
    private int wrong = 0;
    private int all = 0;

    Checks(String title) {
        this.title = title;
    }

    void same(String what, Object due, Object got) {
        all++;
        if (!String.valueOf(due).equals(String.valueOf(got))) {
            wrong++;
            if (wrong <= 40) {
                System.out.println(title + ": " + what + " answered " + got + ", due is " + due);
            }
        }
    }

    boolean isClean() {
        return wrong == 0;
    }

    void finish() {
        System.out.println(title + ": " + all + " answers, " + wrong + " not as due");
        if (wrong != 0) {
            System.exit(1);
        }
    }
}
