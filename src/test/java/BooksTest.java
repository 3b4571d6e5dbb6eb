/** Promises 20 to 22: books and their rows. */
public final class BooksTest {
    private static final Checks checks = new Checks("BooksTest");

    public static void main(String[] args) {
        book();
        faults();
        rows();
        rowOf();
        checks.end();
    }

    private static void due(String call, long got, long want) {
        checks.due(call, got, want);
    }

    private static void book() {
        HadItFrom x = Desk.withMen(24);
        due("20: book", Desk.book(x, "23 told 09"), 0);
        due("20: two digits", x.rowOf(0, 0, 11), 9);
        due("20: eight men", Desk.book(x, "0 told 1 from 2 heard 3 told 4 told 5 told 6 told 7 word 7"), 1);
        due("20: all kinds", Desk.book(x, "whole 0 told 1;gap 0 told 1;hung 0 told 1;raised 0 told 1;made 0 told 1"), 2);
        due("20: another kind", Desk.book(x, "hidden 0 told 1"), 3);
        due("20: eight rows", Desk.book(x, "0 told 1;0 told 1;0 told 1;0 told 1;0 told 1;0 told 1;0 told 1;0 told 1"), 4);
        x.show(1, 0, 0);
        due("20: no shelf", x.book(8), -1);
        due("20: no shelf", x.book(-1), -1);
        due("20: a row of men", x.book(1), -2);
        due("20: nothing", x.book(2), -3);
        due("20: a fault", Desk.book(x, "0 told 0"), -6);
        for (int n = 5; n < 8; n++) {
            due("20: book", Desk.book(x, "0 told 1"), n);
        }
        due("20: a fault, and no room", Desk.book(x, "0 told"), -6);
        due("20: no room", Desk.book(x, "0 told 1"), -7);
        due("20: no fault then", x.fault(), -1);
        due("20: sayings", x.status(2), 8);
        due("20: counted", x.status(11) * 10000 + x.status(12) * 1000 + x.status(13) * 100 + x.status(16) * 10 + x.status(17), 21121);
    }

    private static void faults() {
        String[] texts = {
            "", "0", "0 ", "0 t", "0 told", "0 told ", "0 told 0", "0 told 00", "0 told 12", "12 told 0", "120 told 1", "110 told 1",
            "0 told 1;", "0 told 1; ", "0 told 1 ", "0 told 1 word", "0 told 1 word ", "0 told 1 word 8", "0 told 1 word 07",
            "0 told 1 word 0 ", "0 word 1", "0;", "0 told 1 word 0;x", "x", "h", "hu", "hid", "hidden", "hidden ", "hidden x",
            "hixx", "gap  0 told 1", "gap gap 0 told 1", "whole0", " 0 told 1", "0  told 1", "0 frxm 1", "0 hear 1", "0 told 1 tx",
            "0 told 1 wold 2", "0 told 1 told 2 from 1", "0 told 1;;", "0 told 1;1", "0 told 1,", "0 Told 1", "0 told x", "0told 1"
        };
        int[] places = {
            0, 1, 2, 3, 6, 7, 7, 7, 7, 0, 0, 2,
            9, 9, 9, 13, 14, 14, 15,
            15, 2, 1, 16, 0, 1, 2, 3, 6, 7, 7,
            2, 4, 4, 5, 0, 2, 4, 6, 10,
            11, 21, 9, 10, 8, 2, 7, 1
        };
        for (int i = 0; i < texts.length; i++) {
            HadItFrom x = Desk.withMen(12);
            due("20: " + texts[i], Desk.book(x, texts[i]), -6);
            due("20: " + texts[i], x.fault(), places[i]);
        }
        faultsOfTooMany();
        faultsOfLetters();
    }

    private static void faultsOfTooMany() {
        HadItFrom x = Desk.withMen(12);
        String eight = "0 told 1;0 told 1;0 told 1;0 told 1;0 told 1;0 told 1;0 told 1;0 told 1";
        due("20: nine rows", Desk.book(x, eight + ";0 told 1"), -6);
        due("20: nine rows", x.fault(), 71);
        String men = "0 told 1 told 2 told 3 told 4 told 5 told 6 told 7";
        due("20: nine men", Desk.book(x, men + " told 8"), -6);
        due("20: nine men", x.fault(), men.length() + 1);
        due("20: eight men and a letter", Desk.book(x, men + "x"), -6);
        due("20: eight men and a letter", x.fault(), men.length());
        due("20: eight men, then a row", Desk.book(x, men + ";0 told 1"), 0);
        due("20: no men at all", Desk.book(new HadItFrom(), "0 told 1"), -6);
    }

    private static void faultsOfLetters() {
        HadItFrom x = Desk.withMen(12);
        Desk.list(x, 0, 2, -1, '0');
        due("20: a letter below 0", x.book(0), -6);
        due("20: a letter below 0", x.fault(), 0);
        Desk.list(x, 0, 3, '0' + (1L << 32), ' ', 't', 'o', 'l', 'd', ' ', '1');
        due("20: longs as ints", x.book(0), 0);
    }

    private static void rows() {
        HadItFrom x = Desk.withMen(3);
        Desk.book(x, "0 told 1");
        Desk.book(x, "0 told 1;1 told 2;hung 2 told 0");
        due("21: rows", x.rows(0), 1);
        due("21: rows", x.rows(1), 3);
        due("21: no saying", x.rows(2), -1);
        due("21: no saying", x.rows(-1), -1);
        due("21: counted", x.status(11), 2);
    }

    private static void rowOf() {
        HadItFrom x = Desk.withMen(20);
        Desk.book(x, "0 told 1 from 12 heard 7 word 4;whole 3 told 5");
        Desk.book(x, "gap 0 told 1;hidden 0 told 1;hung 0 told 1;raised 0 told 1;made 0 told 1 word 7");
        due("22: kind", x.rowOf(0, 0, 0), 0);
        due("22: whole", x.rowOf(0, 1, 0), 1);
        for (int row = 0; row < 5; row++) {
            due("22: kinds", x.rowOf(1, row, 0), row + 2);
        }
        due("22: how many", x.rowOf(0, 0, 1), 4);
        due("22: how many", x.rowOf(0, 1, 1), 2);
        due("22: wording", x.rowOf(0, 0, 2), 4);
        due("22: wording without word", x.rowOf(0, 1, 2), 0);
        due("22: wording", x.rowOf(1, 4, 2), 7);
        int[] men = {0, 1, 12, 7};
        for (int i = 0; i < 4; i++) {
            due("22: man " + i, x.rowOf(0, 0, 10 + i), men[i]);
        }
        for (int i = 0; i < 3; i++) {
            due("22: link " + i, x.rowOf(0, 0, 20 + i), i);
        }
        int[] whats = {-1, 3, 9, 14, 19, 23, 30};
        for (int what : whats) {
            due("22: what " + what, x.rowOf(0, 0, what), -5);
        }
        due("22: no row", x.rowOf(0, 2, 0), -5);
        due("22: no row", x.rowOf(0, -1, 0), -5);
        due("22: no saying", x.rowOf(2, 0, 0), -5);
        due("22: no saying", x.rowOf(-1, 0, 0), -5);
        due("22: counted", x.status(15), 11);
        Desk.book(x, "0 told 1 from 2 heard 3 told 4 from 5 heard 6 from 7");
        Desk.book(x, "0 told 1;0 told 1;0 told 1;0 told 1;0 told 1;0 told 1;0 told 1;0 told 1");
        Desk.book(x, "0 told 1");
        due("22: the eighth row", x.rowOf(3, 7, 0), 0);
        due("22: no ninth row", x.rowOf(3, 8, 0), -5);
        due("22: the last man", x.rowOf(2, 0, 17), 7);
        due("22: the last link", x.rowOf(2, 0, 26), 1);
        due("22: beyond", x.rowOf(2, 0, 18), -5);
        due("22: beyond", x.rowOf(2, 0, 27), -5);
    }
}
