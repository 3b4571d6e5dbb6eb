/** Promises 30 to 33: ways that share no man, and men all must pass. */
public final class NetsTest {
    private static final Checks checks = new Checks("NetsTest");

    public static void main(String[] args) {
        nets();
        rowsOutOfTheNet();
        refused();
        alone();
        oneAfterAnother();
        checks.end();
    }

    private static void due(String call, long got, long want) {
        checks.due(call, got, want);
    }

    private static void dueNet(String letters, int apart, int cut, int knots) {
        HadItFrom x = Desk.withMen(24);
        Desk.book(x, letters);
        dueNet(x, letters, apart, cut, knots);
        dueNetOfNew(letters, apart, cut, knots);
    }

    /** Each of them on an object of its own, too: none may lean on what another one laid out. */
    private static void dueNetOfNew(String letters, int apart, int cut, int knots) {
        HadItFrom x = Desk.withMen(24);
        Desk.book(x, letters);
        due("31: cut alone of " + letters, x.cut(0), cut);
        x = Desk.withMen(24);
        Desk.book(x, letters);
        due("32: knots alone of " + letters, x.knots(0), knots);
        x = Desk.withMen(24);
        Desk.book(x, letters);
        due("30: apart alone of " + letters, x.apart(0), apart);
    }

    private static void dueNet(HadItFrom x, String letters, int apart, int cut, int knots) {
        due("30: apart of " + letters, x.apart(0), apart);
        due("31: cut of " + letters, x.cut(0), cut);
        due("32: knots of " + letters, x.knots(0), knots);
    }

    private static int bits(int... men) {
        int bits = 0;
        for (int man : men) {
            bits |= 1 << man;
        }
        return bits;
    }

    private static void nets() {
        dueNet("1 told 0", 1, bits(1), bits(1));
        dueNet("5 told 3 told 0", 1, bits(3), bits(3, 5));
        dueNet("3 told 5 told 0", 1, bits(3), bits(3, 5));
        dueNet("5 told 3 told 0;6 told 4 told 0", 2, bits(3, 4), 0);
        dueNet("5 told 3 told 0;5 told 4 told 0", 1, bits(5), bits(5));
        dueNet("5 told 3 told 0;6 told 3 told 0", 1, bits(3), bits(3));
        dueNet("5 told 4 told 3 told 0;5 told 6 told 3 told 0", 1, bits(3), bits(3, 5));
        dueNet("1 told 2 told 0;3 told 2 told 0;1 told 4 told 5 told 0", 2, bits(1, 2), 0);
        dueNet("9 told 2 told 0;9 told 3 told 0;8 told 2 told 0", 2, bits(2, 3), 0);
        dueNet("1 told 23;2 told 23;3 told 23;4 told 23;5 told 23;6 told 23;7 told 23;22 told 23", 8, bits(1, 2, 3, 4, 5, 6, 7, 22), 0);
        dueNet("1 told 2 told 3 told 0;3 told 0", 1, bits(3), bits(3));
        dueNet("1 told 2 told 3 told 0;2 told 1 told 0", 2, bits(1, 2), 0);
        dueNet("1 told 2 told 3 told 0;4 told 2 told 5 told 0", 1, bits(2), bits(2));
        dueNet("1 told 0;1 told 0", 1, bits(1), bits(1));
        dueNet("0 told 1 told 23;2 told 1 told 3 told 23", 1, bits(1), bits(1));
        dueNet("0 told 3", 1, bits(0), bits(0));
        dueNet("23 told 3", 1, bits(23), bits(23));
        dueNet("0 told 3;23 told 3", 2, bits(0, 23), 0);
        dueNet("0 told 22 told 1;0 told 23 told 1", 1, bits(0), bits(0));
    }

    private static void rowsOutOfTheNet() {
        dueNet("1 told 0;hung 2 told 0", 1, bits(1), bits(1));
        dueNet("hung 1 told 0;2 told 0", 1, bits(2), bits(2));
        dueNet("hung 1 told 0", 0, 0, 0);
        dueNet("1 told 0;2 told 0 told 3", 1, bits(1), bits(1));
        dueNet("hung 1 told 0;2 told 3", 0, 0, 0);
        dueNet("1 told 0;gap 2 told 0;hidden 3 told 0;raised 4 told 0;made 5 told 0;whole 6 told 0", 6, bits(1, 2, 3, 4, 5, 6), 0);
        HadItFrom x = Desk.withMen(6);
        x.man(200, 300, 0, 1, 0);
        Desk.book(x, "6 told 0;1 told 2 told 0;2 told 3 told 6");
        dueNet(x, "row 0 that fails", 1, bits(1), bits(1, 2));
        x.mark(1, 4, 0);
        dueNet(x, "no row stands", 0, 0, 0);
        Desk.rules(x, "near 0");
        x.force(0);
        dueNet(x, "row 0 alone stands", 1, bits(6), bits(6));
        due("30: standing anew", x.stands(0, 1), 0);
    }

    private static void refused() {
        HadItFrom x = Desk.withMen(3);
        Desk.book(x, "0 told 1");
        due("30: no saying", x.apart(1), -1);
        due("30: no saying", x.apart(-1), -1);
        due("31: no saying", x.cut(1), -1);
        due("31: no saying", x.cut(-1), -1);
        due("32: no saying", x.knots(1), -1);
        due("32: no saying", x.knots(-1), -1);
        due("33: no man", x.alone(3), -1);
        due("33: no man", x.alone(-1), -1);
        due("30: counted", x.status(11), 8);
    }

    private static void alone() {
        HadItFrom x = Desk.withMen(6);
        due("33: of no saying", x.alone(1), 0);
        Desk.book(x, "1 told 2 told 0");
        Desk.book(x, "1 told 0;3 told 0");
        Desk.book(x, "4 told 1 told 0;5 told 1 told 0");
        Desk.book(x, "2 told 1");
        Desk.book(x, "hung 3 told 1 told 2");
        due("33: alone", x.alone(1), 5);
        due("33: alone", x.alone(2), 9);
        due("33: first of them", x.alone(0), 0);
        due("33: not alone", x.alone(3), 0);
        x.mark(5, 4, 0);
        due("33: now he is", x.alone(4), 4);
    }

    /** What a man had of whom in one saying is nothing to the next one. */
    private static void oneAfterAnother() {
        for (int man = 0; man < 24; man++) {
            int a = (man + 1) % 24;
            int b = (man + 2) % 24;
            int first = (man + 3) % 24;
            HadItFrom x = Desk.withMen(24);
            Desk.book(x, man + " told " + a + " told " + first);
            Desk.book(x, man + " told " + b + " told " + a + " told " + first);
            Desk.book(x, "hung " + man + " told " + a);
            due("32: knots", x.knots(0), bits(man, a));
            due("32: knots of another", x.knots(1), bits(man, a, b));
            due("30: apart of none", x.apart(2), 0);
            due("32: knots of none", x.knots(2), 0);
            due("30: apart", x.apart(1), 1);
            due("33: alone", x.alone(b), 2);
            due("33: alone", x.alone(a), 3);
            due("33: alone, the first", x.alone(first), 0);
        }
    }
}
