/** Counts answers that are not the ones that are due, and tells them. */
final class Due {
    private final String title;
    private int wrong = 0;
    private int seen = 0;

    Due(String title) {
        this.title = title;
    }

    void is(String what, long got, long want) {
        seen++;
        if (got != want) {
            wrong++;
            if (wrong <= 40) {
                System.out.println(title + ": " + what + " answered " + got + ", due is " + want);
            }
        }
    }

    void holds(String what, boolean good) {
        is(what, good ? 1 : 0, 1);
    }

    void end() {
        System.out.println(title + ": " + seen + " answers looked at, " + wrong + " not as due");
        if (wrong != 0) {
            System.exit(1);
        }
    }
}
