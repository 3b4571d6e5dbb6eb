/** Promises 34 to 43: weights, words, clashes, rows like others, who was left out. */
public final class SayingsTest {
    private static final Checks checks = new Checks("SayingsTest");

    public static void main(String[] args) {
        agree();
        weight();
        wordings();
        mouths();
        mouthsOfEachWording();
        weightOfEachRow();
        clash();
        doubt();
        doubtOfMany();
        likeByOneMore();
        likeByAnother();
        between();
        silent();
        beside();
        checks.end();
    }

    private static void due(String call, long got, long want) {
        checks.due(call, got, want);
    }

    private static void agree() {
        HadItFrom x = Desk.withMen(6);
        x.mark(5, 4, 0);
        Desk.book(x, "1 told 2;3 told 2");
        Desk.book(x, "1 told 2;1 told 4");
        Desk.book(x, "1 told 2;5 told 2");
        Desk.book(x, "5 told 1;2 told 3");
        Desk.book(x, "hung 1 told 4;3 told 2");
        Desk.book(x, "1 told 4");
        due("34: agree", x.agree(1), 2);
        due("34: agree", x.agree(2), 2);
        due("34: agree", x.agree(3), 2);
        due("34: agree", x.agree(5), 0);
        due("34: no man", x.agree(6), -1);
        due("34: no man", x.agree(-1), -1);
        due("34: counted", x.status(11), 2);
    }

    private static void weight() {
        HadItFrom x = Desk.withMen(8);
        x.mark(4, 4, 0);
        x.mark(5, 2, 0);
        Desk.book(x, "1 told 0");
        Desk.book(x, "5 told 0;1 heard 0");
        Desk.book(x, "4 told 0");
        Desk.book(x, "5 told 0;hung 1 told 0;2 told 3");
        Desk.book(x, "1 told 0;2 told 0;3 told 0");
        Desk.book(x, "hung 1 heard 0");
        int[] want = {9, 8, 0, 9, 11, 7};
        for (int s = 0; s < 6; s++) {
            due("35: weight " + s, x.weight(s), want[s]);
        }
        due("35: no saying", x.weight(6), -1);
        due("35: no saying", x.weight(-1), -1);
        due("35: counted", x.status(11), 2);
        Desk.rules(x, "more 45");
        Desk.rules(x, "more 46");
        Desk.rules(x, "more 99;bar 0");
        x.force(0);
        due("35: 99", x.weight(4), 99);
        x.force(1);
        due("35: 99 at most", x.weight(4), 99);
        due("35: two", x.weight(1), 53);
        x.force(2);
        due("35: one that stands with nothing", x.weight(2), 0);
    }

    /** The one row that is strong (or stands at all) is row 0, row 1 .. of eight. */
    private static void weightOfEachRow() {
        for (int strong = 0; strong < 8; strong++) {
            StringBuilder book = new StringBuilder();
            for (int row = 0; row < 8; row++) {
                book.append(row == 0 ? "" : ";").append(row == strong ? "1 told 0" : "1 heard 0");
            }
            HadItFrom x = Desk.withMen(2);
            Desk.book(x, book.toString());
            due("35: row " + strong + " is strong", x.weight(0), 9);
            x.force(Desk.rules(x, "bar 8;sure 8"));
            due("35: row " + strong + " stands", x.weight(0), 8);
            due("36: row " + strong + " stands", x.wordings(0), 1);
            due("43: row " + strong + " stands", x.beside(0, Desk.rules(x, "bar 9;sure 8")), 1);
        }
    }

    private static void mouthsOfEachWording() {
        for (int a = 0; a < 8; a++) {
            for (int b = 0; b < 8; b++) {
                HadItFrom x = Desk.withMen(4);
                Desk.book(x, "1 told 0 word " + a + ";2 told 0 word " + b + ";1 told 3 told 0 word " + a);
                due("37: wordings " + a + " and " + b, x.mouths(0), a == b ? 0 : 2 + 4);
                due("36: wordings " + a + " and " + b, x.wordings(0), 1 << a | 1 << b);
            }
        }
    }

    private static void wordings() {
        HadItFrom x = Desk.withMen(6);
        x.mark(5, 4, 0);
        Desk.book(x, "1 told 0;2 told 0 word 7;3 told 0 word 7;5 told 0 word 3;hung 4 told 0 word 2");
        Desk.book(x, "5 told 0");
        due("36: wordings", x.wordings(0), 1 + 4 + 128);
        due("36: none stands", x.wordings(1), 0);
        due("36: no saying", x.wordings(2), -1);
        due("36: no saying", x.wordings(-1), -1);
        due("36: counted", x.status(11), 2);
    }

    private static void mouths() {
        HadItFrom x = Desk.withMen(8);
        x.mark(7, 4, 0);
        Desk.book(x, "1 told 2 told 0;3 told 2 told 0;4 told 5 told 0 word 1");
        Desk.book(x, "1 told 2 told 0;1 told 3 told 0");
        Desk.book(x, "1 told 2 told 0;7 told 3 told 0 word 1");
        Desk.book(x, "1 told 0;2 told 0 word 1;3 told 1 word 2;hung 4 told 1 word 2");
        Desk.book(x, "7 told 1;7 told 2 word 1");
        Desk.book(x, "0 told 1;2 told 1 word 1");
        due("37: of man 0", x.mouths(5), 1 + 4);
        due("37: mouths", x.mouths(0), 4 + 16 + 32);
        due("37: one wording", x.mouths(1), 0);
        due("37: one that stands", x.mouths(2), 0);
        due("37: of three", x.mouths(3), 4);
        due("37: none stands", x.mouths(4), 0);
        due("37: no saying", x.mouths(6), -1);
        due("37: no saying", x.mouths(-1), -1);
        due("37: counted", x.status(11), 2);
    }

    private static void clash() {
        HadItFrom x = Desk.withMen(2);
        Desk.book(x, "0 told 1");
        Desk.book(x, "0 told 1");
        Desk.book(x, "0 told 1");
        due("38: they don't", x.clash(0, 1, false), 0);
        due("38: they clash", x.clash(0, 1, true), 1);
        due("38: they did", x.clash(1, 0, true), 0);
        due("38: others", x.clash(1, 2, true), 1);
        due("38: clashes", x.status(4), 2);
        due("38: no more", x.clash(1, 0, false), 1);
        due("38: clashes", x.status(4), 1);
        due("38: they don't", x.clash(0, 1, false), 0);
        due("38: no saying", x.clash(3, 3, true), -1);
        due("38: no saying", x.clash(0, 3, true), -1);
        due("38: no saying", x.clash(-1, 0, true), -1);
        due("38: one", x.clash(2, 2, false), -6);
        due("38: counted", x.status(11) * 10 + x.status(16), 31);
    }

    private static void dueDoubt(HadItFrom x, int set, int sum, int rivals) {
        due("39: set", x.doubt(0), set);
        due("39: sum", x.doubt(1), sum);
        due("39: rivals", x.doubt(2), rivals);
    }

    private static void doubt() {
        HadItFrom x = Desk.withMen(6);
        dueDoubt(x, 0, 0, 1);
        Desk.book(x, "1 told 0");
        Desk.book(x, "1 heard 0");
        Desk.book(x, "1 told 0");
        Desk.book(x, "1 heard 0");
        dueDoubt(x, 0, 0, 1);
        x.clash(0, 1, true);
        dueDoubt(x, 2, 7, 1);
        x.clash(2, 1, true);
        dueDoubt(x, 2, 7, 1);
        x.clash(0, 3, true);
        dueDoubt(x, 2 + 8, 14, 1);
        x.clash(0, 2, true);
        dueDoubt(x, 1 + 2, 16, 1);
        x.clash(0, 1, false);
        x.clash(0, 2, false);
        x.clash(0, 3, false);
        x.clash(1, 3, true);
        x.clash(2, 1, false);
        dueDoubt(x, 2, 7, 2);
        x.mark(1, 4, 0);
        dueDoubt(x, 2, 0, 12);
        due("39: another what", x.doubt(3), -5);
        due("39: another what", x.doubt(-1), -5);
        due("39: counted", x.status(15), 2);
    }

    private static void doubtOfMany() {
        HadItFrom x = Desk.withMen(3);
        for (int s = 0; s < 8; s++) {
            Desk.book(x, "1 told 0");
        }
        for (int a = 0; a < 8; a++) {
            for (int b = 0; b < a; b++) {
                x.clash(a, b, true);
            }
        }
        due("39: clashes", x.status(4), 28);
        dueDoubt(x, 127, 63, 8);
        x.clash(0, 1, false);
        dueDoubt(x, 252, 54, 1);
    }

    private static void likeByOneMore() {
        HadItFrom x = Desk.withMen(8);
        Desk.book(x, "1 told 2 told 3;1 told 2;2 told 3");
        Desk.book(x, "4 told 1 heard 2;1 told 2 told 4;1 told 4 told 2;2 told 4 told 1");
        Desk.book(x, "1 told 4 told 2 told 3;3 told 1 told 4 told 2;1 told 2 told 3");
        due("40: with a last one", x.like(0, 0), 11);
        due("40: none", x.like(0, 1), -1);
        due("40: with a first one", x.like(1, 0), 11);
        due("40: with a last one", x.like(1, 1), 11);
        due("40: with one between", x.like(1, 2), 11);
        due("40: in another order", x.like(1, 3), -1);
        due("40: the first by sayings", x.like(2, 0), 1);
        due("40: of a later one", x.like(2, 1), 121);
        due("40: not of one with the same men", x.like(2, 2), 11);
        due("40: no row", x.like(0, 3), -11);
        due("40: no row", x.like(0, -1), -11);
        due("40: no saying", x.like(3, 0), -11);
        due("40: no saying", x.like(-1, 0), -11);
        due("40: counted", x.status(11), 4);
    }

    private static void likeByAnother() {
        HadItFrom x = Desk.withMen(8);
        x.mark(4, 0, 0);
        x.mark(5, 5, 0);
        Desk.book(x, "1 told 2 told 3;1 told 4 told 3;5 told 2 told 3");
        Desk.book(x, "1 told 2 told 4;1 told 2 told 6;4 told 1 told 2");
        due("40: in whose stead", x.like(0, 0), 12);
        due("40: not sure", x.like(0, 1), -1);
        due("40: not sure", x.like(0, 2), -1);
        due("40: not sure", x.like(1, 0), -1);
        due("40: in the last one's stead", x.like(1, 1), 102);
        due("40: none", x.like(1, 2), -1);
        x.mark(4, 1, 0);
        due("40: both are sure", x.like(1, 1), -1);
        due("40: in the first one's stead", x.like(0, 0), 22);
        x.mark(3, 2, 0);
        due("40: the same one does not matter", x.like(0, 0), 22);
        due("40: sure now, for another", x.like(1, 0), 2);
    }

    private static void between() {
        HadItFrom x = new HadItFrom();
        x.man(0, 50, 0, 1, 0);
        x.man(30, 90, 0, 1, 0);
        x.man(60, 120, 0, 1, 0);
        x.man(35, 95, 0, 1, 0);
        x.man(35, 95, 1, 1, 0);
        due("41: between", x.between(0, 2), 10);
        due("41: between", x.between(2, 0), 10);
        due("41: between", x.between(0, 1), 8);
        due("41: between", x.between(1, 3), 1 + 4);
        Desk.rules(x, "near 0");
        x.force(0);
        due("41: all others", x.between(0, 2), 26);
        due("41: no man", x.between(0, 5), -1);
        due("41: no man", x.between(5, 5), -1);
        due("41: no man", x.between(-1, 0), -1);
        due("41: one", x.between(3, 3), -6);
        due("41: counted", x.status(11) * 10 + x.status(16), 31);
    }

    private static void silent() {
        HadItFrom x = Desk.withMen(5);
        x.man(0, 100, 1, 1, 0);
        due("42: of all", x.silent(0), 2 + 4 + 8 + 16);
        Desk.book(x, "0 told 1 told 2;hung 0 heard 3");
        Desk.book(x, "4 told 0");
        Desk.book(x, "0 told 5 told 4");
        due("42: silent", x.silent(0), 4 + 16);
        due("42: silent", x.silent(1), 1 + 8 + 16);
        due("42: silent", x.silent(4), 2 + 4 + 8);
        due("42: of nobody near", x.silent(5), 0);
        due("42: no man", x.silent(6), -1);
        due("42: no man", x.silent(-1), -1);
        due("42: counted", x.status(11), 2);
    }

    private static void beside() {
        HadItFrom x = Desk.withMen(4);
        x.man(200, 300, 0, 1, 0);
        x.mark(2, 0, 0);
        Desk.book(x, "0 told 1");
        Desk.book(x, "0 told 2");
        Desk.book(x, "0 told 4;0 told 2");
        Desk.book(x, "0 told 4");
        Desk.rules(x, "bar 4");
        Desk.rules(x, "near 0;bar 4");
        due("43: a higher bar", x.beside(-1, 0), 6);
        due("43: the other way", x.beside(0, -1), 6);
        due("43: near", x.beside(0, 1), 12);
        due("43: both", x.beside(-1, 1), 10);
        x.mark(1, 0, 0);
        due("43: the first saying, too", x.beside(-1, 0), 7);
        due("43: the same", x.beside(-1, -1) + x.beside(1, 1), 0);
        x.force(1);
        due("43: whatever is in force", x.beside(-1, 0), 7);
        due("43: no rules", x.beside(2, 0), -1);
        due("43: no rules", x.beside(-1, 2), -1);
        due("43: no rules", x.beside(-2, 0), -1);
        due("43: counted", x.status(11), 3);
    }
}
