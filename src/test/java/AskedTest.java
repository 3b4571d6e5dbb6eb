import java.util.function.ToLongFunction;

/** What is asked changes nothing: all that an object holds is told as of one that was not asked. */
public final class AskedTest {
    private static final Checks checks = new Checks("AskedTest");

    public static void main(String[] args) {
        shelves();
        men();
        rows();
        sayings();
        whatDoesNothing();
        checks.end();
    }

    private static void dueNoChange(String call, ToLongFunction<HadItFrom> asked) {
        HadItFrom x = Stages.some();
        long answer = asked.applyAsLong(x);
        checks.due(call + ", asked again", asked.applyAsLong(x), answer);
        for (int what = 11; what <= 17; what++) {
            checks.due(call + ", status " + what, x.status(what), Stages.some().status(what));
        }
        checks.due(call + ", the fault", x.fault(), Stages.some().fault());
        checks.due(call + " changes nothing", Told.all(x).equals(Told.all(Stages.some())) ? 1 : 0, 1);
    }

    private static void shelves() {
        dueNoChange("5: element", x -> x.element(0, 1));
        dueNoChange("5: no element", x -> x.element(Stages.MEN, 1));
        dueNoChange("7: holds", x -> x.holds(Stages.MEN));
        dueNoChange("8: says", x -> x.says(Stages.MEN, 3));
        dueNoChange("17: fault", x -> x.fault());
        dueNoChange("18: rule", x -> x.rule(0, 12));
    }

    private static void men() {
        dueNoChange("14: manOf", x -> x.manOf(1, 3));
        dueNoChange("15: where", x -> x.where(0, 26));
        dueNoChange("23: could", x -> x.could(0, 3));
        dueNoChange("24: when", x -> x.when(0, 3));
        dueNoChange("33: alone", x -> x.alone(3));
        dueNoChange("34: agree", x -> x.agree(2));
        dueNoChange("41: between", x -> x.between(0, 3));
        dueNoChange("42: silent", x -> x.silent(0));
    }

    private static void rows() {
        dueNoChange("21: rows", x -> x.rows(0));
        dueNoChange("22: rowOf", x -> x.rowOf(0, 1, 10));
        dueNoChange("25: fails", x -> x.fails(0, 1));
        dueNoChange("26: strength", x -> x.strength(0, 1));
        dueNoChange("27: stands", x -> x.stands(0, 1));
        dueNoChange("28: sureness", x -> x.sureness(0, 1, 1));
        dueNoChange("29: judge", x -> x.judge(0, 0));
        dueNoChange("40: like", x -> x.like(0, 1));
    }

    private static void sayings() {
        dueNoChange("30: apart", x -> x.apart(0));
        dueNoChange("31: cut", x -> x.cut(0));
        dueNoChange("32: knots", x -> x.knots(0));
        dueNoChange("35: weight", x -> x.weight(0));
        dueNoChange("36: wordings", x -> x.wordings(0));
        dueNoChange("37: mouths", x -> x.mouths(0));
        dueNoChange("39: doubt", x -> x.doubt(2));
        dueNoChange("43: beside", x -> x.beside(-1, 1));
        dueNoChange("45: trace", x -> x.trace(1));
        dueNoChange("48: status", x -> x.status(3));
    }

    /** Calls that could change something, but here have nothing to do. */
    private static void whatDoesNothing() {
        dueNoChange("4: copy of none", x -> x.copy(0, 0, 10, 10, 0));
        dueNoChange("4: copy on its own place", x -> x.copy(0, 0, 2, 2, 5));
        dueNoChange("3: set to what it was", x -> x.set(0, 1, 9));
        dueNoChange("6: show nothing on nothing", x -> x.show(Stages.NOTHING, -1, 0));
        dueNoChange("6: show what it holds", x -> x.show(Stages.MEN, 0, 1));
        dueNoChange("10: no men", x -> x.men(0, 10, 0));
        dueNoChange("10: none that can be one", x -> x.men(0, 1, 5));
        dueNoChange("12: found as it was", x -> x.found(0, 10, 90));
        dueNoChange("13: mark as it was", x -> x.mark(1, 3, 45));
        dueNoChange("19: force as it was", x -> x.force(0));
        dueNoChange("38: clash as it was", x -> x.clash(1, 0, true));
    }
}
