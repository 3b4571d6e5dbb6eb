/** Counts answers that are not the due ones, and tells them. */
final class Checks {
    private final String of;
    private int made = 0;
    private int wrong = 0;

    Checks(String of) {
        this.of = of;
    }

    void due(String call, long got, long want) {
        made++;
        if (got != want) {
            wrong++;
            System.out.println(of + ": " + call + " answered " + got + ", due is " + want);
        }
    }

    /** Ends the test program: 1 if an answer was wrong, or nothing was asked. */
    void end() {
        System.out.println(of + ": " + made + " answers, " + wrong + " wrong");
        System.exit(wrong == 0 && made > 0 ? 0 : 1);
    }
}
