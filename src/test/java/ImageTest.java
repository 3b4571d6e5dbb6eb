/** Promises 46 to 48: the image, and how many there are. */
public final class ImageTest {
    private static final Checks checks = new Checks("ImageTest");

    public static void main(String[] args) {
        image();
        restore();
        restoreKeepsTheRest();
        restoreOfEach();
        restoreOfMarks();
        restoreOfShelves();
        restoreOfForce();
        status();
        checks.end();
    }

    private static void due(String call, long got, long want) {
        checks.due(call, got, want);
    }

    private static HadItFrom some() {
        HadItFrom x = Desk.withMen(4);
        x.journey(1, 3, 20, 30);
        Desk.rules(x, "sure 8");
        x.force(0);
        Desk.book(x, "0 told 1;2 told 1");
        Desk.book(x, "0 told 2");
        x.clash(0, 1, true);
        return x;
    }

    private static void image() {
        HadItFrom x = new HadItFrom();
        due("47: none yet", x.restore(), -6);
        due("47: counted", x.status(16), 1);
        due("46: of nothing", x.image(), 0);
        due("47: of nothing", x.restore(), 0);
        x = some();
        due("46: image", x.image(), 2);
        Desk.book(x, "3 told 2");
        due("46: a later one", x.image(), 3);
        Desk.book(x, "3 told 2");
        due("47: the later one", x.restore(), 3);
        due("47: rows", x.rows(2), 1);
    }

    private static void restore() {
        HadItFrom x = some();
        x.image();
        for (int turn = 0; turn < 2; turn++) {
            change(x);
            due("47: restore", x.restore(), 2);
            due("47: men", x.status(0), 4);
            due("47: rules", x.status(1), 1);
            due("47: sayings", x.status(2), 2);
            due("47: rows", x.status(3), 3);
            due("47: clashes", x.status(4), 1);
            due("47: born", x.manOf(0, 0), 0);
            due("47: died", x.manOf(0, 1), 100);
            due("47: mark", x.manOf(0, 3), 1);
            due("47: journeys", x.manOf(1, 4), 1);
            due("47: where", x.where(1, 25), 3);
            due("47: the number of rules", x.rule(0, 3), 8);
            due("47: no other rules", x.rule(1, 3), -5);
            due("47: strength", x.strength(0, 0), 8);
            due("47: rules in force", x.force(0), 0);
            due("47: no saying", x.rows(2), -1);
            due("47: set", x.doubt(0), 2);
        }
        due("47: a new saying", Desk.book(x, "1 told 0 word 3"), 2);
        due("47: its own wording", x.rowOf(2, 0, 2), 3);
        due("47: it does not clash", x.clash(2, 0, false), 0);
    }

    private static void change(HadItFrom x) {
        x.man(1, 2, 3, 4, 5);
        x.found(0, 50, 300);
        x.mark(0, 4, 0);
        x.journey(1, 4, 0, 400);
        Desk.rules(x, "sure 1");
        x.force(1);
        Desk.book(x, "3 told 4;4 told 3");
        x.clash(0, 1, false);
        x.clash(0, 2, true);
        x.clash(1, 2, true);
        due("47: changed", x.strength(0, 0), 0);
    }

    private static void restoreKeepsTheRest() {
        HadItFrom x = some();
        x.show(0, 0, 1);
        x.image();
        Desk.book(x, "3 told 2;3 told 1");
        x.show(1, 2, 1);
        x.show(2, 1, 0);
        Desk.list(x, 3, 1, 5, 6);
        x.show(0, 2, 0);
        x.act(0, 1, 2, 4);
        Desk.book(x, "x");
        x.apart(9);
        due("47: restore", x.restore(), 2);
        due("47: a shelf with what is no more", x.holds(1), -1);
        due("47: a shelf with what is no more", x.holds(0), -1);
        due("47: a shelf with what still is", x.holds(2), 10);
        due("47: numbers stay", x.element(3, 1), 6);
        due("47: the fault stays", x.fault(), 0);
        due("47: the trace stays", x.trace(0) * 10 + x.status(5), 124);
        due("47: refusals stay", x.status(11) * 10 + x.status(16), 11);
        due("47: says nothing", x.says(1, 0), -3);
        x.show(5, 1, 0);
        x.image();
        due("47: again", x.restore(), 2);
        due("47: holds", x.holds(5), 10);
    }

    /** Each man and each pair of sayings, the first ones and the last ones. */
    private static void restoreOfEach() {
        HadItFrom x = Stages.full();
        for (int s = 0; s < 7; s++) {
            x.clash(s, s + 1, true);
        }
        due("46: image", x.image(), 8);
        for (int man = 0; man < 24; man++) {
            x.found(man, man + 1, man + 2);
            x.mark(man, 2, 0);
            x.journey(man, 7, 50, 50);
        }
        for (int s = 0; s < 7; s++) {
            x.clash(s, s + 1, false);
        }
        due("48: no clashes", x.status(4), 0);
        due("47: restore", x.restore(), 8);
        for (int man = 0; man < 24; man++) {
            due("47: born " + man, x.manOf(man, 0), 0);
            due("47: died " + man, x.manOf(man, 1), 100);
            due("47: mark " + man, x.manOf(man, 3), 1);
            due("47: journeys " + man, x.manOf(man, 4), man == 23 ? 3 : 0);
            due("47: where " + man, x.where(man, 50), man == 23 ? 2 : 0);
        }
        due("47: clashes", x.status(4), 7);
        for (int s = 0; s < 7; s++) {
            due("47: they clash", x.clash(s, s + 1, true), 0);
            due("47: rows", x.rows(s + 1), 8);
        }
    }

    private static void restoreOfMarks() {
        HadItFrom x = new HadItFrom();
        x.man(0, 100, 0, 1, 0);
        x.man(0, 100, 0, 3, 11);
        x.journey(0, 4, 70, 75);
        Desk.book(x, "0 told 1");
        x.image();
        x.mark(1, 3, 10);
        x.journey(0, 5, 71, 73);
        x.journey(0, 6, 72, 74);
        due("28: late", x.sureness(0, 0, 1), 2);
        due("15: elsewhere", x.where(0, 73), 6);
        x.restore();
        due("47: not yet late", x.sureness(0, 0, 1), 9);
        due("47: where", x.where(0, 73), 4);
        due("11: the second journey anew", x.journey(0, 7, 75, 75), 2);
        due("15: on it", x.where(0, 75), 7);
        due("15: not on the one that was", x.where(0, 71), 4);
        x.restore();
        due("47: its first journey alone", x.where(0, 75), 4);
    }

    private static void restoreOfForce() {
        HadItFrom x = Desk.withMen(2);
        Desk.book(x, "0 told 1");
        x.image();
        x.force(Desk.rules(x, "sure 4"));
        due("26: by rules in force", x.strength(0, 0), 4);
        due("47: restore", x.restore(), 1);
        due("26: by those at first", x.strength(0, 0), 9);
        due("19: none are in force", x.force(-1), -1);
        due("18: none are there", x.rule(0, 3), -5);
        Desk.rules(x, "sure 5");
        Desk.rules(x, "sure 6");
        x.force(0);
        x.image();
        x.force(1);
        due("47: restore", x.restore(), 1);
        due("26: by those that were", x.strength(0, 0), 5);
        due("19: 0 are in force", x.force(-1), 0);
        due("47: restore", x.restore(), 1);
        due("19: 0 again", x.force(1), 0);
    }

    private static void restoreOfShelves() {
        HadItFrom x = Desk.withMen(2);
        Desk.write(x, 0, 0, "0 told 1;".repeat(8).substring(0, 71));
        for (int n = 0; n < 7; n++) {
            x.book(0);
        }
        x.image();
        due("20: the eighth", x.book(0), 7);
        for (int s = 0; s < 8; s++) {
            x.show(s, 7, s);
        }
        due("47: restore", x.restore(), 7);
        for (int s = 0; s < 8; s++) {
            due("47: shelf " + s + " with what is no more", x.holds(s), -1);
        }
        for (int s = 0; s < 7; s++) {
            x.show(s, s, 7);
            x.show(7, 6, 0);
            x.restore();
            due("47: shelf " + s + " with what still is", x.holds(s), 10 * s + 7);
            due("47: the last shelf", x.holds(7), 60);
        }
        Desk.write(x, 7, 0, "0 told 1");
        due("20: the eighth", x.book(7), 7);
        x.image();
        x.show(0, 7, 0);
        due("47: restore", x.restore(), 8);
        due("47: the eighth still is", x.holds(0), 70);
    }

    private static void status() {
        HadItFrom x = some();
        int[] want = {4, 1, 2, 3, 1, 0};
        for (int what = 0; what < 6; what++) {
            due("48: status " + what, x.status(what), want[what]);
        }
        x.act(0, 0, 2, 0);
        due("48: bodies", x.status(5), 4);
        x.rows(9);
        x.force(9);
        x.judge(9, 0);
        x.show(6, 0, 0);
        x.set(6, 0, 0);
        x.judge(0, 6);
        x.set(5, 0, 0);
        x.judge(0, 5);
        x.row(0, 0, -1);
        x.element(0, 0);
        x.manOf(9, 0);
        x.could(0, 0);
        x.row(0, 0, 101);
        x.row(0, 0, 102);
        x.holds(9);
        x.trace(-1);
        x.when(9, 9);
        x.where(9, 9);
        x.act(9, 9, 9, 9);
        int[] refused = {3, 2, 2, 1, 1, 1, 2};
        for (int kind = 1; kind <= 7; kind++) {
            due("48: refusals -" + kind, x.status(10 + kind), refused[kind - 1]);
        }
        int[] others = {-1, 6, 7, 10, 18, 99, Integer.MIN_VALUE, Integer.MAX_VALUE};
        for (int what : others) {
            due("48: status " + what, x.status(what), -1);
        }
        due("48: nothing is refused", x.status(15), 1);
    }
}
