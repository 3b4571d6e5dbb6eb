/** All that an object answers of what it holds, but for how many refusals there were and the fault. */
final class Told {
    private static final int[] YEARS = {0, 1, 9, 10, 20, 25, 27, 40, 80, 90, 99, 100};
    private static final int[] LATEST = {100};
    private static final int[] NO_YEARS = {};
    private static final int FEW = 6;
    private static final int MOST_CALLS = 340;

    private final HadItFrom x;
    private final StringBuilder told = new StringBuilder();
    private int calls = 0;
    private boolean isFirst = true;

    private Told(HadItFrom x) {
        this.x = x;
    }

    /** The object can't be used any more after it. */
    static String all(HadItFrom x) {
        Told all = new Told(x);
        all.how();
        all.shelves();
        all.men();
        all.rules();
        all.sayings();
        all.what("force", x.force(HadItFrom.NONE));
        all.what("restore", x.restore());
        all.isFirst = false;
        all.how();
        all.men();
        if (all.calls > MOST_CALLS) {
            throw new IllegalStateException("an object has 512 calls, too many are made to tell it: " + all.calls);
        }
        return all.told.toString();
    }

    private int what(String call, long answer) {
        calls++;
        told.append(call).append(' ').append(answer).append('\n');
        return (int) answer;
    }

    private void how() {
        int ran = 0;
        for (int i = 0; i < 6; i++) {
            ran = what("status " + i, x.status(i));
        }
        for (int i = 0; i < ran; i++) {
            what("trace " + i, x.trace(i));
        }
    }

    private void shelves() {
        for (int s = 0; s < 8; s++) {
            boolean hasNumbers = what("holds " + s, x.holds(s)) >= 100;
            for (int i = 0; i < 10 && hasNumbers; i++) {
                what("element " + s + " " + i, x.element(s, i));
            }
            if (hasNumbers) {
                what("size of " + s, size(s));
            }
        }
    }

    /** The end up to which none can be copied: no call tells a size. */
    private int size(int s) {
        int least = 0;
        int most = 100;
        while (least < most) {
            int middle = (least + most + 1) / 2;
            calls++;
            if (x.copy(s, s, middle, middle, 0) == 1) {
                least = middle;
            } else {
                most = middle - 1;
            }
        }
        return least;
    }

    private void men() {
        int count = what("men", x.status(0));
        int[] years = isFirst ? count > FEW ? LATEST : YEARS : NO_YEARS;
        for (int m = 0; m < count; m += count > FEW ? 5 : 1) {
            for (int i = 0; i < 5; i++) {
                what("manOf " + m + " " + i, x.manOf(m, i));
            }
            for (int year : years) {
                what("where " + m + " " + year, x.where(m, year));
            }
        }
    }

    private void rules() {
        int count = what("rules", x.status(1));
        for (int r = 0; r < count; r++) {
            for (int i = 0; i < 14; i += count > 2 ? 5 : 1) {
                what("rule " + r + " " + i, x.rule(r, i));
            }
        }
    }

    private void sayings() {
        int count = what("sayings", x.status(2));
        for (int s = 0; s < count; s++) {
            int rows = what("rows " + s, x.rows(s));
            what("weight " + s, x.weight(s));
            for (int r = 0; r < Math.min(2, rows); r++) {
                for (int i : new int[] {0, 2, 10, 11, 20}) {
                    what("rowOf " + s + " " + r + " " + i, x.rowOf(s, r, i));
                }
                what("strength " + s + " " + r, x.strength(s, r));
            }
        }
        what("doubt", x.doubt(0));
        what("doubt", x.doubt(2));
    }
}
