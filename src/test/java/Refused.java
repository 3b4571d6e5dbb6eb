import java.util.function.Supplier;
import java.util.function.ToLongFunction;

/** Whether a call is refused as it is due, and changes nothing but how many refusals there were. */
final class Refused {
    interface WithNumber {
        long of(HadItFrom x, int n);
    }

    private final Checks checks;

    Refused(Checks checks) {
        this.checks = checks;
    }

    /** Refused with a number of -1 to -7 (-11 to -17: counted as -1 to -7). */
    void due(String call, Supplier<HadItFrom> stage, ToLongFunction<HadItFrom> asked, int want) {
        due(call, stage, asked, want, stage.get().fault());
    }

    /** As the other due(), with the fault that there is after the call. */
    void due(String call, Supplier<HadItFrom> stage, ToLongFunction<HadItFrom> asked, int want, int fault) {
        HadItFrom x = stage.get();
        int[] before = counts(x);
        checks.due(call, asked.applyAsLong(x), want);
        int[] after = counts(x);
        int kind = want < -10 ? -want - 10 : -want;
        for (int k = 1; k <= 7; k++) {
            checks.due(call + ", counted -" + k, after[k] - before[k], k == kind ? 1 : 0);
        }
        checks.due(call + ", the fault", x.fault(), fault);
        checks.due(call + ", nothing else changes", Told.all(x).equals(Told.all(stage.get())) ? 1 : 0, 1);
    }

    /** Not refused, whatever the answer. */
    void dueNot(String call, Supplier<HadItFrom> stage, ToLongFunction<HadItFrom> asked) {
        HadItFrom x = stage.get();
        int[] before = counts(x);
        asked.applyAsLong(x);
        int[] after = counts(x);
        for (int k = 1; k <= 7; k++) {
            checks.due(call + ", not refused -" + k, after[k] - before[k], 0);
        }
    }

    /** Each number from the least to the most is taken; those below and above are refused. */
    void dueFrom(String call, Supplier<HadItFrom> stage, WithNumber asked, int least, int most, int below, int above) {
        for (int n = least; n <= most; n++) {
            int number = n;
            dueNot(call + ", " + n, stage, x -> asked.of(x, number));
        }
        for (int n : new int[] {least - 1, Integer.MIN_VALUE}) {
            due(call + ", " + n, stage, x -> asked.of(x, n), below);
        }
        for (int n : new int[] {most + 1, Integer.MAX_VALUE}) {
            due(call + ", " + n, stage, x -> asked.of(x, n), above);
        }
    }

    /** As numbers of a list, one refusal for all others. */
    void dueAmong(String call, Supplier<HadItFrom> stage, WithNumber asked, int least, int most, int refusal) {
        dueFrom(call, stage, asked, least, most, refusal, refusal);
    }

    private static int[] counts(HadItFrom x) {
        int[] counts = new int[8];
        for (int k = 1; k <= 7; k++) {
            counts[k] = x.status(10 + k);
        }
        return counts;
    }
}
