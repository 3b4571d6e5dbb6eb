/** Promises 44 and 45: acts of rows, and their trace. */
public final class ActsTest {
    private static final Checks checks = new Checks("ActsTest");

    public static void main(String[] args) {
        acts();
        wrapping();
        refused();
        checks.end();
    }

    private static void due(String call, long got, long want) {
        checks.due(call, got, want);
    }

    private static void dueAct(HadItFrom x, int row, int act, int arg, int want, int... trace) {
        String call = "act of row " + row + ", " + act;
        due("44: " + call, x.act(row / 4, row % 4, act, arg), want);
        due("48: " + call, x.status(5), trace.length);
        for (int i = 0; i < trace.length; i++) {
            due("45: " + call + ", body " + i, x.trace(i), trace[i]);
        }
        due("45: " + call + ", no more", x.trace(trace.length), -1);
        due("45: " + call + ", none before", x.trace(-1), -1);
    }

    /** Rows 0 to 7 are two sayings of four, so that row r has the number r % 4. */
    private static HadItFrom withAllKinds() {
        HadItFrom x = Desk.withMen(6);
        Desk.book(x, "0 told 1 told 2;whole 0 told 1 told 2;gap 0 told 1 told 2;hidden 0 told 1 told 2");
        Desk.book(x, "0 told 1;hung 0 told 1;raised 0 told 1;made 0 told 1 told 2 told 3");
        return x;
    }

    private static void acts() {
        HadItFrom x = withAllKinds();
        dueAct(x, 0, 0, 5, 5, 10);
        dueAct(x, 0, 1, 5, 10, 11, 10);
        dueAct(x, 0, 2, 5, 10 ^ 2, 12, 11, 10, 10);
        dueAct(x, 1, 0, 5, 6, 10);
        dueAct(x, 1, 1, 5, 15, 20, 11, 10);
        dueAct(x, 1, 2, 5, 15 ^ 3, 12, 20, 11, 10, 10);
        dueAct(x, 2, 0, 5, 21, 30, 10);
        dueAct(x, 2, 1, 5, 42, 11, 30, 10);
        dueAct(x, 2, 2, 5, 42 ^ 12, 12, 11, 30, 10, 30, 10);
        dueAct(x, 3, 0, 5, 27, 40, 30, 10);
        dueAct(x, 3, 1, 5, 54, 11, 40, 30, 10);
        dueAct(x, 3, 2, 5, (54 ^ 18) - 3, 41, 12, 11, 40, 30, 10, 40, 30, 10);
        dueAct(x, 5, 0, 5, 6, 10);
        dueAct(x, 5, 1, 5, -12, 50, 11, 10);
        dueAct(x, 5, 2, 5, -12 ^ 4, 12, 50, 11, 10, 10);
        dueAct(x, 6, 0, 5, 7, 10);
        dueAct(x, 6, 1, 5, 14, 11, 10);
        dueAct(x, 6, 2, 5, (14 ^ 5) * 2, 60, 12, 11, 10, 10);
        dueAct(x, 7, 0, 5, 4, 71, 10);
        dueAct(x, 7, 1, 5, 8, 11, 71, 10);
        dueAct(x, 7, 2, 5, (8 ^ 0) * 2 ^ 7, 70, 60, 12, 11, 71, 10, 71, 10);
        dueAct(x, 7, 2, 1, (0 ^ -4) * 2 ^ 7, 70, 60, 12, 11, 71, 10, 71, 10);
        dueAct(x, 7, 2, 9, (16 ^ 4) * 2 ^ 7, 70, 60, 12, 11, 71, 10, 71, 10);
        dueAct(x, 7, 2, 6, (10 ^ 1) * 2 ^ 7, 70, 60, 12, 11, 71, 10, 71, 10);
        due("45: far", x.trace(20) + x.trace(Integer.MAX_VALUE) + x.trace(Integer.MIN_VALUE), -3);
    }

    private static void wrapping() {
        HadItFrom x = withAllKinds();
        int top = Integer.MAX_VALUE;
        dueAct(x, 1, 0, top, Integer.MIN_VALUE, 10);
        dueAct(x, 2, 0, top, (top + 2) * 3, 30, 10);
        dueAct(x, 0, 1, top, -2, 11, 10);
        dueAct(x, 0, 2, Integer.MIN_VALUE, top - 2, 12, 11, 10, 10);
    }

    private static void refused() {
        HadItFrom x = withAllKinds();
        int[][] wrong = {{0, 4, 0}, {0, -1, 0}, {2, 0, 0}, {-1, 0, 0}, {0, 0, 3}, {0, 0, -1}};
        for (int[] w : wrong) {
            x.act(1, 3, 2, 1);
            due("44: ran", x.status(5), 8);
            due("44: no such", x.act(w[0], w[1], w[2], 9), 0);
            due("45: no trace then", x.trace(0), -1);
            due("48: no bodies", x.status(5), 0);
        }
        due("44: not refused", x.status(11) + x.status(15) + x.status(16), 0);
        x.act(0, 0, 0, 1);
        x.apart(0);
        x.fails(0, 0);
        due("45: stays", x.trace(0), 10);
    }
}
