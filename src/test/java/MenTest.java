/** Promises 9 to 15: men. */
public final class MenTest {
    private static final Checks checks = new Checks("MenTest");

    public static void main(String[] args) {
        man();
        men();
        menOfSome();
        menUntil();
        journey();
        found();
        mark();
        manOf();
        where();
        checks.end();
    }

    private static void due(String call, long got, long want) {
        checks.due(call, got, want);
    }

    private static void dueMan(HadItFrom x, int man, int... parts) {
        for (int what = 0; what < parts.length; what++) {
            due("man " + man + ", what " + what, x.manOf(man, what), parts[what]);
        }
    }

    private static void man() {
        HadItFrom x = new HadItFrom();
        due("9: man", x.man(0, 400, 7, 5, 0), 0);
        due("9: man of one year", x.man(400, 400, 0, 0, -7), 1);
        due("9: late", x.man(3, 4, 1, 3, 400), 2);
        due("9: late does not matter", x.man(3, 4, 1, 4, 401), 3);
        dueMan(x, 0, 0, 400, 7, 5, 0);
        dueMan(x, 1, 400, 400, 0, 0, 0);
        dueMan(x, 2, 3, 4, 1, 3, 0);
        int[][] wrong = {
            {-1, 4, 0, 0, 0}, {401, 401, 0, 0, 0}, {0, 401, 0, 0, 0}, {5, 4, 0, 0, 0}, {0, 4, -1, 0, 0},
            {0, 4, 8, 0, 0}, {0, 4, 0, -1, 0}, {0, 4, 0, 6, 0}, {0, 4, 0, 3, -1}, {0, 4, 0, 3, 401}
        };
        for (int[] w : wrong) {
            due("9: wrong", x.man(w[0], w[1], w[2], w[3], w[4]), -6);
        }
        due("9: still four", x.status(0), 4);
        for (int n = 4; n < 24; n++) {
            due("9: man", x.man(1, 2, 3, 0, 0), n);
        }
        due("9: wrong, and no room", x.man(1, 0, 3, 0, 0), -6);
        due("9: no room", x.man(1, 2, 3, 0, 0), -7);
        due("9: men", x.status(0), 24);
        due("9: counted", x.status(16) * 10 + x.status(17), 111);
    }

    private static void men() {
        HadItFrom x = Desk.withMen(2);
        Desk.book(x, "0 told 1");
        x.show(1, 0, 0);
        Desk.list(x, 0, 1, 9, 1, 2, 3, 4, 5, 6, 7, 1, 3, 8, 6, 5, 1, 3, 8, 6, 7, 1, 3, 8);
        due("10: until one that can't be", x.men(0, 1, 20), 2);
        due("10: men", x.status(0), 4);
        dueMan(x, 2, 1, 2, 3, 4, 0);
        dueMan(x, 3, 6, 7, 1, 3, 0);
        due("10: none", x.men(0, 21, 0), 0);
        long[][] wrong = {{9, 8, 0, 0, 0}, {0, 9, 8, 0, 0}, {0, 9, -1, 0, 0}, {0, 9, 0, 6, 0}, {0, 9, 0, 3, 401}, {-1, 9, 0, 0, 0}};
        for (long[] w : wrong) {
            Desk.list(x, 3, 1, w);
            due("10: can't be one", x.men(3, 0, 5), 0);
        }
        due("10: the first can't be", x.men(0, 11, 10), 0);
        due("10: no shelf", x.men(8, -1, -1), -1);
        due("10: no shelf", x.men(-1, 0, 0), -1);
        due("10: a row of men", x.men(1, -1, -1), -2);
        due("10: nothing", x.men(2, -1, -1), -3);
        due("10: below", x.men(0, -1, -1), -4);
        due("10: beyond", x.men(0, -1, 5), -5);
        due("10: beyond, and no multiple", x.men(0, 18, 4), -5);
        due("10: beyond", x.men(0, 22, 0), -5);
        due("10: beyond", x.men(0, 1, Integer.MAX_VALUE), -5);
        due("10: no multiple", x.men(0, 18, 3), -6);
        long[] many = new long[100];
        for (int i = 0; i < 100; i++) {
            many[i] = i % 5 == 1 ? 9 : 0;
        }
        Desk.list(x, 0, 2, many);
        due("10: a hundred", x.men(0, 0, 100), 20);
        due("10: no room", x.men(0, 0, 10), 0);
        due("10: no refusal", x.status(17), 0);
        x = Desk.withMen(5);
        Desk.list(x, 0, 2, many);
        due("10: until there is no room", x.men(0, 0, 100), 19);
        due("10: men", x.status(0), 24);
        x = new HadItFrom();
        Desk.list(x, 0, 3, 1L << 32, (1L << 40) + 8, 7, 3, (5L << 32) + 400);
        due("10: longs as ints", x.men(0, 0, 5), 1);
        dueMan(x, 0, 0, 8, 7, 3, 0);
    }

    /** Five men could be made of the elements; so many are as the call says, from where it says. */
    private static void menOfSome() {
        for (int n = 0; n <= 5; n++) {
            for (int i = 0; i + n <= 5; i++) {
                HadItFrom x = new HadItFrom();
                Desk.list(x, 0, 1, 1, 9, 0, 0, 0, 2, 9, 0, 0, 0, 3, 9, 0, 0, 0, 4, 9, 0, 0, 0, 5, 9, 0, 0, 0);
                due("10: " + n + " from " + i, x.men(0, 5 * i, 5 * n), n);
                due("10: men", x.status(0), n);
                due("10: the first of them", x.manOf(0, 0), n > 0 ? i + 1 : -5);
                due("10: the last of them", x.manOf(n - 1, 0), n > 0 ? i + n : -5);
            }
        }
    }

    /** The first, the second .. of four elements' men can't be one. */
    private static void menUntil() {
        for (int wrong = 0; wrong < 4; wrong++) {
            HadItFrom x = new HadItFrom();
            Desk.list(x, 0, 2, 1, 9, 0, 0, 0, 2, 9, 0, 0, 0, 3, 9, 0, 0, 0, 4, 9, 0, 0, 0);
            x.set(0, 5 * wrong + 2, 8);
            due("10: until " + wrong, x.men(0, 0, 20), wrong);
            due("10: men", x.status(0), wrong);
            due("10: no refusal", x.status(16), 0);
        }
    }

    private static void journey() {
        HadItFrom x = Desk.withMen(2);
        due("11: first", x.journey(1, 7, 0, 400), 1);
        due("11: a year", x.journey(1, 0, 5, 5), 2);
        due("11: no man", x.journey(2, 9, 5, 4), -1);
        due("11: no man", x.journey(-1, 0, 0, 0), -1);
        due("11: place", x.journey(1, 8, 0, 0), -6);
        due("11: place", x.journey(1, -1, 0, 0), -6);
        due("11: years", x.journey(1, 0, 6, 5), -6);
        due("11: years", x.journey(1, 0, -1, 5), -6);
        due("11: years", x.journey(1, 0, 5, 401), -6);
        due("11: third", x.journey(1, 1, 1, 2), 3);
        due("11: wrong, and no room", x.journey(1, 8, 1, 2), -6);
        due("11: no room", x.journey(1, 1, 1, 2), -7);
        due("11: of another", x.journey(0, 1, 1, 2), 1);
        due("11: has", x.manOf(1, 4) * 10 + x.manOf(0, 4), 31);
        due("11: counted", x.status(11) * 100 + x.status(16) * 10 + x.status(17), 261);
    }

    private static void found() {
        HadItFrom x = new HadItFrom();
        x.man(5, 10, 3, 4, 0);
        x.journey(0, 1, 6, 7);
        due("12: found", x.found(0, 0, 400), 1);
        dueMan(x, 0, 0, 400, 3, 4, 1);
        due("12: no man", x.found(1, 5, 4), -1);
        due("12: no man", x.found(-1, 5, 6), -1);
        due("12: wrong", x.found(0, 5, 4), -6);
        due("12: wrong", x.found(0, -1, 4), -6);
        due("12: wrong", x.found(0, 1, 401), -6);
        dueMan(x, 0, 0, 400, 3, 4, 1);
        due("12: one year", x.found(0, 400, 400), 1);
        dueMan(x, 0, 400, 400, 3, 4, 1);
    }

    private static void mark() {
        HadItFrom x = Desk.withMen(2);
        x.man(0, 100, 0, 3, 10);
        due("13: mark", x.mark(2, 5, 0), 3);
        due("13: was", x.mark(2, 0, 999), 5);
        due("13: is", x.manOf(2, 3), 0);
        due("13: no man", x.mark(3, 6, 0), -1);
        due("13: no man", x.mark(-1, 1, 0), -1);
        due("13: wrong", x.mark(2, 6, 0), -6);
        due("13: wrong", x.mark(2, -1, 0), -6);
        due("13: wrong late", x.mark(2, 3, 401), -6);
        due("13: wrong late", x.mark(2, 3, -1), -6);
        due("13: nothing changed", x.manOf(2, 3), 0);
        Desk.book(x, "0 told 2");
        due("13: late", x.mark(2, 3, 11), 0);
        due("13: 10 is before 11", x.sureness(0, 0, 1), 9);
        due("13: late again", x.mark(2, 3, 10), 3);
        due("13: 10 is not before 10", x.sureness(0, 0, 1), 2);
    }

    private static void manOf() {
        HadItFrom x = new HadItFrom();
        x.man(5, 10, 3, 2, 0);
        dueMan(x, 0, 5, 10, 3, 2, 0);
        due("14: no man", x.manOf(1, 0), -5);
        due("14: no man", x.manOf(-1, 0), -5);
        due("14: another what", x.manOf(0, 5), -5);
        due("14: another what", x.manOf(0, -1), -5);
        due("14: counted", x.status(15), 4);
    }

    private static void where() {
        HadItFrom x = new HadItFrom();
        x.man(5, 50, 3, 0, 0);
        x.journey(0, 1, 0, 20);
        x.journey(0, 2, 10, 12);
        x.journey(0, 4, 40, 90);
        int[][] due = {{4, -1}, {5, 1}, {9, 1}, {10, 2}, {12, 2}, {13, 1}, {20, 1}, {21, 3}, {39, 3}, {40, 4}, {50, 4}, {51, -1}};
        for (int[] d : due) {
            due("15: where in " + d[0], x.where(0, d[0]), d[1]);
        }
        due("15: no man", x.where(1, 10), -1);
        due("15: no man", x.where(-1, 10), -1);
        due("15: no year", x.where(0, -1), -1);
        due("15: no year", x.where(0, 401), -1);
        due("15: not refused", x.status(11), 0);
    }
}
