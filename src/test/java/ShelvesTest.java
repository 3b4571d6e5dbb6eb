/** Promises 1 to 8: a new object, and what shelves hold. */
public final class ShelvesTest {
    private static final Checks checks = new Checks("ShelvesTest");

    public static void main(String[] args) {
        newObject();
        row();
        set();
        copy();
        element();
        show();
        holds();
        says();
        saysOfAllRows();
        checks.end();
    }

    private static void due(String call, long got, long want) {
        checks.due(call, got, want);
    }

    private static void newObject() {
        HadItFrom x = new HadItFrom();
        due("1: NONE", HadItFrom.NONE, -1);
        for (int what = 0; what <= 5; what++) {
            due("1: status " + what, x.status(what), 0);
        }
        for (int what = 11; what <= 17; what++) {
            due("1: status " + what, x.status(what), 0);
        }
        for (int s = 0; s < 8; s++) {
            due("1: holds " + s, x.holds(s), -1);
        }
        due("1: fault", x.fault(), -1);
        due("1: trace", x.trace(0), -1);
        due("1: force", x.force(-1), -1);
        due("1: restore", x.restore(), -6);
        Desk.book(Desk.withMen(2), "0 told 1");
        due("1: another object is another", x.status(0) + x.status(2) + x.holds(7), -1);
    }

    private static void row() {
        HadItFrom x = new HadItFrom();
        due("2: row(0, 0, 100)", x.row(0, 0, 100), 1);
        due("2: holds", x.holds(0), 100);
        due("2: row(7, 3, 0)", x.row(7, 3, 0), 1);
        due("2: holds", x.holds(7), 103);
        due("2: no shelf 8", x.row(8, 9, -1), -1);
        due("2: no shelf -1", x.row(-1, 9, -1), -1);
        due("2: below, and a wrong sort", x.row(0, 4, -1), -4);
        due("2: wrong sort, and too many", x.row(0, 4, 101), -6);
        due("2: wrong sort", x.row(0, -1, 1), -6);
        due("2: too many", x.row(0, 1, 101), -7);
        due("2: too many", x.row(0, 1, Integer.MAX_VALUE), -7);
        due("2: nothing changed", x.holds(0), 100);
        due("2: counted", x.status(11) * 1000 + x.status(14) * 100 + x.status(16) * 10 + x.status(17), 2122);
        x.set(0, 0, 76);
        x.set(0, 5, 77);
        x.row(0, 2, 6);
        due("2: a new row is 0", x.element(0, 0), 0);
        due("2: a new row is 0", x.element(0, 5), 0);
        due("2: and has its own size", x.set(0, 6, 1), -5);
        x = Desk.withMen(2);
        Desk.book(x, "0 told 1");
        x.show(1, 0, 0);
        due("2: in a row of men's stead", x.row(1, 1, 1), 1);
        due("2: holds", x.holds(1), 101);
    }

    private static void set() {
        HadItFrom x = Desk.withMen(2);
        Desk.book(x, "0 told 1");
        long[] kept = {-1, -1, -1, 0x7FFFFFFFFFFFFFFFL};
        for (int sort = 0; sort < 4; sort++) {
            x.row(0, sort, 2);
            due("3: set", x.set(0, 1, Long.MAX_VALUE), 1);
            due("3: lowest bits of sort " + sort, x.element(0, 1), kept[sort]);
            due("3: the other one", x.element(0, 0), 0);
        }
        long[] tops = {128, 32768, 2147483648L};
        for (int sort = 0; sort < 3; sort++) {
            x.row(0, sort, 1);
            x.set(0, 0, tops[sort]);
            due("3: wraps in sort " + sort, x.element(0, 0), -tops[sort]);
            x.set(0, 0, tops[sort] - 1);
            due("3: fits in sort " + sort, x.element(0, 0), tops[sort] - 1);
        }
        x.show(1, 0, 0);
        due("3: no shelf", x.set(8, 0, 0), -1);
        due("3: no shelf", x.set(-1, 0, 0), -1);
        due("3: a row of men", x.set(1, 9, 0), -2);
        due("3: nothing", x.set(2, 9, 0), -3);
        due("3: beyond", x.set(0, 1, 0), -5);
        due("3: beyond", x.set(0, -1, 0), -5);
        due("3: counted", x.status(11) * 1000 + x.status(12) * 100 + x.status(13) * 10 + x.status(15), 2112);
    }

    private static void copy() {
        HadItFrom x = Desk.withMen(2);
        Desk.book(x, "0 told 1");
        Desk.list(x, 0, 2, 1, 2, 3, 4, 5);
        Desk.list(x, 1, 2, 9, 8, 7);
        due("4: copy", x.copy(0, 1, 1, 0, 2), 1);
        due("4: came", x.element(1, 0) * 100 + x.element(1, 1) * 10 + x.element(1, 2), 237);
        due("4: on itself, forward", x.copy(0, 0, 0, 1, 4), 1);
        due("4: as they were ahead", x.element(0, 1) * 1000 + x.element(0, 2) * 100 + x.element(0, 3) * 10 + x.element(0, 4), 1234);
        due("4: on itself, back", x.copy(0, 0, 1, 0, 4), 1);
        due("4: as they were ahead", x.element(0, 0) * 1000 + x.element(0, 1) * 100 + x.element(0, 2) * 10 + x.element(0, 3), 1234);
        due("4: none", x.copy(0, 1, 5, 3, 0), 1);
        x.show(2, 0, 0);
        x.row(3, 1, 3);
        due("4: no shelf", x.copy(8, 2, 0, 0, -1), -1);
        due("4: no shelf", x.copy(2, -1, 0, 0, -1), -1);
        due("4: a row of men", x.copy(2, 1, 0, 0, -1), -2);
        due("4: a row of men", x.copy(1, 2, 0, 0, -1), -2);
        due("4: a row of men and nothing", x.copy(4, 2, 0, 0, -1), -2);
        due("4: two sorts", x.copy(1, 3, 0, 0, -1), -2);
        due("4: from nothing", x.copy(4, 1, 0, 0, -1), -3);
        due("4: to nothing", x.copy(1, 4, 0, 0, -1), -3);
        due("4: below", x.copy(0, 1, -1, 0, -1), -4);
        due("4: i below 0", x.copy(0, 1, -1, 0, 1), -5);
        due("4: j below 0", x.copy(0, 1, 0, -1, 1), -5);
        due("4: i's end", x.copy(0, 1, 5, 0, 1), -5);
        due("4: j's end", x.copy(0, 1, 0, 1, 3), -5);
        due("4: far ends", x.copy(0, 1, Integer.MAX_VALUE, 0, Integer.MAX_VALUE), -5);
        due("4: none, but beyond", x.copy(0, 1, 6, 0, 0), -5);
        due("4: nothing changed", x.element(1, 0) * 100 + x.element(1, 1) * 10 + x.element(1, 2), 237);
        due("4: counted", x.status(11) * 10000 + x.status(12) * 1000 + x.status(13) * 100 + x.status(14) * 10 + x.status(15), 24216);
    }

    private static void element() {
        HadItFrom x = Desk.withMen(2);
        Desk.book(x, "0 told 1");
        Desk.list(x, 0, 3, 5L << 40, -3);
        x.show(1, 0, 0);
        due("5: a long", x.element(0, 0), 5L << 40);
        due("5: below 0", x.element(0, 1), -3);
        due("5: beyond", x.element(0, 2), 0);
        due("5: before", x.element(0, -1), 0);
        due("5: a row of men", x.element(1, 0), 0);
        due("5: nothing", x.element(2, 0), 0);
        due("5: no shelf", x.element(8, 0) + x.element(-1, 0), 0);
        for (int what = 11; what <= 17; what++) {
            due("5: nothing is refused", x.status(what), 0);
        }
    }

    private static void show() {
        HadItFrom x = Desk.withMen(3);
        Desk.book(x, "0 told 1;2 told 1");
        Desk.book(x, "0 told 2");
        due("6: show", x.show(0, 0, 1), 1);
        due("6: holds", x.holds(0), 1);
        due("6: show", x.show(0, 1, 0), 1);
        due("6: holds", x.holds(0), 10);
        due("6: no such row", x.show(0, 1, 1), -1);
        due("6: no such row", x.show(0, 1, -1), -1);
        due("6: no such saying", x.show(0, 2, 0), -1);
        due("6: no such saying", x.show(0, -2, 0), -1);
        due("6: no shelf", x.show(8, 0, 0), -1);
        due("6: no shelf for nothing", x.show(-1, -1, 0), -1);
        due("6: nothing changed", x.holds(0), 10);
        due("6: nothing, whatever row", x.show(0, -1, 99), 0);
        due("6: holds", x.holds(0), -1);
        due("6: counted", x.status(11), 6);
    }

    private static void holds() {
        HadItFrom x = Desk.withMen(2);
        Desk.write(x, 0, 0, "0 told 1;0 told 1;0 told 1;0 told 1;0 told 1;0 told 1;0 told 1;0 told 1");
        for (int n = 0; n < 8; n++) {
            x.book(0);
        }
        x.show(3, 7, 7);
        due("7: the last row", x.holds(3), 77);
        x.row(3, 1, 0);
        due("7: shorts", x.holds(3), 101);
        due("7: no shelf", x.holds(8), -1);
        due("7: no shelf", x.holds(-1), -1);
        due("7: not refused", x.status(11), 0);
    }

    private static void says() {
        HadItFrom x = Desk.withMen(4);
        Desk.book(x, "0 told 1 heard 2 word 5;whole 3 told 1 told 2 word 6");
        Desk.book(x, "gap 1 told 2;hidden 2 told 1 from 3 heard 0");
        Desk.book(x, "hung 1 told 3;raised 3 told 0");
        Desk.book(x, "made 2 heard 3;gap 1 heard 2 heard 3");
        int[][] due = {
            {3, -2, -2, -2, -2, -2, -2}, {3, 6, -2, -2, -2, -2, -2}, {2, -2, -1, -2, -2, -2, -2},
            {4, -2, 2, 2, -2, -2, -2}, {2, -2, -2, -2, 3, -2, -2}, {2, -2, -2, -2, -2, 3, -2}, {2, -2, -2, -2, -2, 2, 2},
            {3, -2, 0, -2, -2, -2, -2}
        };
        for (int r = 0; r < 8; r++) {
            x.show(0, r / 2, r % 2);
            for (int kind = 0; kind < 7; kind++) {
                due("8: row " + r + " says as " + kind, x.says(0, kind), due[r][kind]);
            }
        }
        int others = x.status(12);
        due("8: others counted", others, 39);
        x.row(1, 0, 1);
        due("8: no shelf", x.says(8, 0), -1);
        due("8: no kind", x.says(1, 7), -1);
        due("8: no kind", x.says(2, -1), -1);
        due("8: numbers", x.says(1, 0), -2);
        due("8: nothing", x.says(2, 0), -3);
    }

    /** Eight sayings of eight rows, of which row r of saying s has 2 + (s + r) % 2 men. */
    private static void saysOfAllRows() {
        HadItFrom x = Desk.withMen(3);
        Desk.write(x, 0, 0, "0 told 1;0 told 1 told 2;".repeat(4).substring(0, 99));
        Desk.write(x, 1, 0, "0 told 1 told 2;0 told 1;".repeat(4).substring(0, 99));
        for (int s = 0; s < 8; s++) {
            due("20: book", x.book(s % 2), s);
        }
        for (int s = 0; s < 8; s++) {
            for (int r = 0; r < 8; r++) {
                due("6: show", x.show(2, s, r), 1);
                due("7: row " + r + " of saying " + s, x.holds(2), 10 * s + r);
                due("8: row " + r + " of saying " + s, x.says(2, 0), 2 + (s + r) % 2);
            }
        }
    }
}
