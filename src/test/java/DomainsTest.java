/** Each number that a call takes, at both its ends: the last that may be and the first that may not, and all between. */
public final class DomainsTest {
    private static final Checks checks = new Checks("DomainsTest");
    private static final Refused refused = new Refused(checks);
    private static final int LAST_MAN = 3;
    private static final int LAST_SAYING = 1;
    private static final int LAST_ROW = 1;
    private static final int LAST_RULES = 1;

    public static void main(String[] args) {
        shelves();
        elements();
        rowsOfMenOnShelves();
        newMen();
        menByElements();
        journeys();
        foundAndMark();
        askedOfMen();
        rules();
        readShelves();
        rowsOfSayings();
        sayings();
        twoMen();
        full();
        neverRefused();
        checks.end();
    }

    private static void shelves() {
        refused.dueAmong("2: row, shelf", Stages::some, (x, n) -> x.row(n, 1, 3), 0, 7, -1);
        refused.dueAmong("2: row, sort", Stages::some, (x, n) -> x.row(5, n, 3), 0, 3, -6);
        refused.dueFrom("2: row, size", Stages::some, (x, n) -> x.row(5, 1, n), 0, 100, -4, -7);
        refused.dueAmong("3: set, shelf", Stages::withNumbers, (x, n) -> x.set(n, 1, 3), 0, 7, -1);
        refused.dueAmong("4: copy, from shelf", Stages::withNumbers, (x, n) -> x.copy(n, 3, 0, 0, 2), 0, 7, -1);
        refused.dueAmong("4: copy, to shelf", Stages::withNumbers, (x, n) -> x.copy(3, n, 0, 0, 2), 0, 7, -1);
        refused.dueAmong("6: show, shelf", Stages::some, (x, n) -> x.show(n, 0, 0), 0, 7, -1);
        refused.dueAmong("6: show of nothing, shelf", Stages::some, (x, n) -> x.show(n, -1, 0), 0, 7, -1);
        refused.dueAmong("8: says, shelf", Stages::withRowsOfMen, (x, n) -> x.says(n, 3), 0, 7, -1);
        refused.dueAmong("10: men, shelf", Stages::withNumbers, (x, n) -> x.men(n, 0, 10), 0, 7, -1);
        refused.dueAmong("29: judge, shelf", Stages::withNumbers, (x, n) -> x.judge(0, n), 0, 7, -11);
    }

    private static void elements() {
        refused.dueAmong("3: set, element", Stages::withNumbers, (x, n) -> x.set(4, n, 3), 0, 9, -5);
        refused.dueAmong("4: copy, from element", Stages::withNumbers, (x, n) -> x.copy(4, 5, n, 0, 3), 0, 7, -5);
        refused.dueAmong("4: copy, to element", Stages::withNumbers, (x, n) -> x.copy(4, 5, 0, n, 3), 0, 7, -5);
        refused.dueAmong("4: copy of none, from element", Stages::withNumbers, (x, n) -> x.copy(4, 5, n, 0, 0), 0, 10, -5);
        refused.dueAmong("4: copy of none, to element", Stages::withNumbers, (x, n) -> x.copy(4, 5, 0, n, 0), 0, 10, -5);
        refused.dueFrom("4: copy, so many from 0", Stages::withNumbers, (x, n) -> x.copy(4, 5, 0, 0, n), 0, 10, -4, -5);
        refused.dueFrom("4: copy, so many from 4", Stages::withNumbers, (x, n) -> x.copy(4, 5, 4, 0, n), 0, 6, -4, -5);
        refused.dueFrom("4: copy, so many to 4", Stages::withNumbers, (x, n) -> x.copy(4, 5, 0, 4, n), 0, 6, -4, -5);
        refused.dueFrom("4: copy on itself", Stages::withNumbers, (x, n) -> x.copy(4, 4, 1, 2, n), 0, 8, -4, -5);
    }

    private static void rowsOfMenOnShelves() {
        refused.dueAmong("6: show, saying (NONE: nothing)", Stages::some, (x, n) -> x.show(5, n, 0), -1, LAST_SAYING, -1);
        refused.dueAmong("6: show, row", Stages::some, (x, n) -> x.show(5, 0, n), 0, LAST_ROW, -1);
        refused.dueAmong("6: show, row of a saying with one", Stages::some, (x, n) -> x.show(5, 1, n), 0, 0, -1);
        int[] noKinds = {-1, Integer.MIN_VALUE, 7, Integer.MAX_VALUE};
        for (int kind : noKinds) {
            refused.due("8: says, kind " + kind, Stages::withRowsOfMen, x -> x.says(0, kind), -1);
        }
        int[] taken = {0, 2, 3};
        for (int kind : taken) {
            refused.dueNot("8: says of a hidden one, kind " + kind, Stages::withRowsOfMen, x -> x.says(0, kind));
        }
        int[] others = {1, 4, 5, 6};
        for (int kind : others) {
            refused.due("8: says of a hidden one, kind " + kind, Stages::withRowsOfMen, x -> x.says(0, kind), -2);
        }
    }

    private static void newMen() {
        refused.dueAmong("9: man, born", Stages::some, (x, n) -> x.man(n, 400, 3, 1, 0), 0, 400, -6);
        refused.dueAmong("9: man, born no later than he died", Stages::some, (x, n) -> x.man(n, 50, 3, 1, 0), 0, 50, -6);
        refused.dueAmong("9: man, died", Stages::some, (x, n) -> x.man(0, n, 3, 1, 0), 0, 400, -6);
        refused.dueAmong("9: man, died no earlier than he was born", Stages::some, (x, n) -> x.man(390, n, 3, 1, 0), 390, 400, -6);
        refused.dueAmong("9: man, place", Stages::some, (x, n) -> x.man(20, 50, n, 1, 0), 0, 7, -6);
        refused.dueAmong("9: man, mark", Stages::some, (x, n) -> x.man(20, 50, 3, n, 0), 0, 5, -6);
        refused.dueAmong("9: man, late", Stages::some, (x, n) -> x.man(20, 50, 3, 3, n), 0, 400, -6);
        int[] lates = {Integer.MIN_VALUE, -1, 401, Integer.MAX_VALUE};
        for (int late : lates) {
            for (int mark : new int[] {0, 1, 2, 4, 5}) {
                refused.dueNot("9: man of mark " + mark + ", late " + late, Stages::some, x -> x.man(20, 50, 3, mark, late));
                refused.dueNot("13: mark " + mark + ", late " + late, Stages::some, x -> x.mark(1, mark, late));
            }
        }
    }

    private static void menByElements() {
        refused.dueAmong("10: men, first element", Stages::withNumbers, (x, n) -> x.men(4, n, 5), 0, 5, -5);
        refused.dueAmong("10: men of none, first element", Stages::withNumbers, (x, n) -> x.men(4, n, 0), 0, 10, -5);
        for (int n = -3; n <= 13; n++) {
            int size = n;
            String call = "10: men by " + n + " of ten elements";
            if (n < 0 || n > 10 || n % 5 != 0) {
                refused.due(call, Stages::withNumbers, x -> x.men(4, 0, size), n < 0 ? -4 : n > 10 ? -5 : -6);
            } else {
                refused.dueNot(call, Stages::withNumbers, x -> x.men(4, 0, size));
            }
        }
        refused.due("10: men, far", Stages::withNumbers, x -> x.men(4, 0, Integer.MAX_VALUE), -5);
        refused.due("10: men, far", Stages::withNumbers, x -> x.men(4, Integer.MAX_VALUE, Integer.MAX_VALUE), -5);
        refused.due("10: men, far below", Stages::withNumbers, x -> x.men(4, 0, Integer.MIN_VALUE), -4);
        int[][] ends = {{0, 400, 401}, {1, 400, 401}, {2, 7, 8}, {3, 5, 6}, {4, 400, 401}};
        for (int[] end : ends) {
            dueElement(end[0], 0, end[0] == 1 ? 0 : 1);
            dueElement(end[0], end[1], 1);
            dueElement(end[0], end[2], 0);
            dueElement(end[0], -1, 0);
        }
    }

    /** A man of the last mark that takes any late, or of that which takes a year. */
    private static void dueElement(int part, int v, int want) {
        HadItFrom x = new HadItFrom();
        Desk.list(x, 0, 2, part == 0 ? 0 : 1, 400, 7, part == 4 ? 3 : 5, 400);
        x.set(0, part, v);
        checks.due("10: men, part " + part + " is " + v, x.men(0, 0, 5), want);
        checks.due("10: men, how many then", x.status(0), want);
        checks.due("10: men, nothing is refused", x.status(16), 0);
    }

    private static void journeys() {
        refused.dueAmong("11: journey, man", Stages::some, (x, n) -> x.journey(n == 0 ? 1 : n, 1, 5, 6), 0, LAST_MAN, -1);
        refused.dueAmong("11: journey, place", Stages::some, (x, n) -> x.journey(1, n, 5, 6), 0, 7, -6);
        refused.dueAmong("11: journey, from", Stages::some, (x, n) -> x.journey(1, 1, n, 400), 0, 400, -6);
        refused.dueAmong("11: journey, from no later than to", Stages::some, (x, n) -> x.journey(1, 1, n, 60), 0, 60, -6);
        refused.dueAmong("11: journey, to", Stages::some, (x, n) -> x.journey(1, 1, 0, n), 0, 400, -6);
        refused.dueAmong("11: journey, to no earlier than from", Stages::some, (x, n) -> x.journey(1, 1, 390, n), 390, 400, -6);
    }

    private static void foundAndMark() {
        refused.dueAmong("12: found, man", Stages::some, (x, n) -> x.found(n, 5, 6), 0, LAST_MAN, -1);
        refused.dueAmong("12: found, born", Stages::some, (x, n) -> x.found(1, n, 400), 0, 400, -6);
        refused.dueAmong("12: found, born no later than he died", Stages::some, (x, n) -> x.found(1, n, 60), 0, 60, -6);
        refused.dueAmong("12: found, died", Stages::some, (x, n) -> x.found(1, 0, n), 0, 400, -6);
        refused.dueAmong("12: found, died no earlier", Stages::some, (x, n) -> x.found(1, 390, n), 390, 400, -6);
        refused.dueAmong("13: mark, man", Stages::some, (x, n) -> x.mark(n, 4, 0), 0, LAST_MAN, -1);
        refused.dueAmong("13: mark", Stages::some, (x, n) -> x.mark(1, n, 7), 0, 5, -6);
        refused.dueAmong("13: mark, late", Stages::some, (x, n) -> x.mark(1, 3, n), 0, 400, -6);
    }

    private static void askedOfMen() {
        refused.dueAmong("14: manOf, man", Stages::some, (x, n) -> x.manOf(n, 0), 0, LAST_MAN, -5);
        refused.dueAmong("14: manOf, what", Stages::some, (x, n) -> x.manOf(1, n), 0, 4, -5);
        refused.dueAmong("33: alone, man", Stages::some, (x, n) -> x.alone(n), 0, LAST_MAN, -1);
        refused.dueAmong("34: agree, man", Stages::some, (x, n) -> x.agree(n), 0, LAST_MAN, -1);
        refused.dueAmong("42: silent, man", Stages::some, (x, n) -> x.silent(n), 0, LAST_MAN, -1);
    }

    private static void rules() {
        refused.dueAmong("18: rule, rules", Stages::some, (x, n) -> x.rule(n, 3), 0, LAST_RULES, -5);
        refused.dueAmong("18: rule, number", Stages::some, (x, n) -> x.rule(0, n), 0, 13, -5);
        refused.dueAmong("19: force (NONE: those at first)", Stages::some, (x, n) -> x.force(n), -1, LAST_RULES, -11);
        refused.dueAmong("43: beside, rules", Stages::some, (x, n) -> x.beside(n, 0), -1, LAST_RULES, -1);
        refused.dueAmong("43: beside, other", Stages::some, (x, n) -> x.beside(0, n), -1, LAST_RULES, -1);
    }

    private static void readShelves() {
        for (int s = 0; s < 8; s++) {
            int shelf = s;
            refused.dueNot("16: rules, shelf " + s, () -> Stages.withLetters("age 3"), x -> x.rules(shelf));
            refused.dueNot("20: book, shelf " + s, () -> Stages.withLetters("1 told 3"), x -> x.book(shelf));
        }
        for (int s : new int[] {-1, 8, Integer.MIN_VALUE, Integer.MAX_VALUE}) {
            refused.due("16: rules, shelf " + s, Stages::some, x -> x.rules(s), -1);
            refused.due("20: book, shelf " + s, Stages::some, x -> x.book(s), -1);
        }
        refused.due("16: rules of a row of men", Stages::some, x -> x.rules(Stages.MEN), -2);
        refused.due("20: book of a row of men", Stages::some, x -> x.book(Stages.MEN), -2);
        refused.due("16: rules of nothing", Stages::some, x -> x.rules(Stages.NOTHING), -3);
        refused.due("20: book of nothing", Stages::some, x -> x.book(Stages.NOTHING), -3);
        refused.due("16: rules, a fault", Stages::some, x -> x.rules(Stages.BOOK), -6, 0);
        refused.due("20: book, a fault", Stages::some, x -> x.book(Stages.FAULTY), -6, 0);
    }

    private static void rowsOfSayings() {
        refused.dueAmong("22: rowOf, saying", Stages::some, (x, n) -> x.rowOf(n, 0, 0), 0, LAST_SAYING, -5);
        refused.dueAmong("22: rowOf, row", Stages::some, (x, n) -> x.rowOf(0, n, 0), 0, LAST_ROW, -5);
        refused.dueAmong("22: rowOf, what", Stages::some, (x, n) -> x.rowOf(0, 0, n), 0, 2, -5);
        refused.dueAmong("22: rowOf, men", Stages::some, (x, n) -> x.rowOf(0, 1, n), 10, 11, -5);
        refused.dueAmong("22: rowOf, links", Stages::some, (x, n) -> x.rowOf(0, 1, n), 20, 20, -5);
        refused.dueAmong("25: fails, saying", Stages::some, (x, n) -> x.fails(n, 0), 0, LAST_SAYING, -11);
        refused.dueAmong("25: fails, row", Stages::some, (x, n) -> x.fails(0, n), 0, LAST_ROW, -11);
        refused.dueAmong("26: strength, saying", Stages::some, (x, n) -> x.strength(n, 0), 0, LAST_SAYING, -1);
        refused.dueAmong("26: strength, row", Stages::some, (x, n) -> x.strength(0, n), 0, LAST_ROW, -1);
        refused.dueAmong("27: stands, saying", Stages::some, (x, n) -> x.stands(n, 0), 0, LAST_SAYING, -1);
        refused.dueAmong("27: stands, row", Stages::some, (x, n) -> x.stands(0, n), 0, LAST_ROW, -1);
        refused.dueAmong("28: sureness, saying", Stages::some, (x, n) -> x.sureness(n, 0, 0), 0, LAST_SAYING, -1);
        refused.dueAmong("28: sureness, row", Stages::some, (x, n) -> x.sureness(0, n, 0), 0, LAST_ROW, -1);
        refused.dueAmong("28: sureness, man", Stages::some, (x, n) -> x.sureness(0, 1, n), 0, 1, -1);
        refused.dueAmong("40: like, saying", Stages::some, (x, n) -> x.like(n, 0), 0, LAST_SAYING, -11);
        refused.dueAmong("40: like, row", Stages::some, (x, n) -> x.like(0, n), 0, LAST_ROW, -11);
    }

    private static void sayings() {
        refused.dueAmong("21: rows", Stages::some, (x, n) -> x.rows(n), 0, LAST_SAYING, -1);
        refused.dueAmong("29: judge, saying", Stages::some, (x, n) -> x.judge(n, 0), 0, LAST_SAYING, -11);
        refused.due("29: judge by a row of men", Stages::some, x -> x.judge(0, Stages.MEN), -12);
        refused.due("29: judge by nothing", Stages::some, x -> x.judge(0, Stages.NOTHING), -13);
        refused.dueAmong("30: apart", Stages::some, (x, n) -> x.apart(n), 0, LAST_SAYING, -1);
        refused.dueAmong("31: cut", Stages::some, (x, n) -> x.cut(n), 0, LAST_SAYING, -1);
        refused.dueAmong("32: knots", Stages::some, (x, n) -> x.knots(n), 0, LAST_SAYING, -1);
        refused.dueAmong("35: weight", Stages::some, (x, n) -> x.weight(n), 0, LAST_SAYING, -1);
        refused.dueAmong("36: wordings", Stages::some, (x, n) -> x.wordings(n), 0, LAST_SAYING, -1);
        refused.dueAmong("37: mouths", Stages::some, (x, n) -> x.mouths(n), 0, LAST_SAYING, -1);
        refused.dueAmong("38: clash, a", Stages::some, (x, n) -> x.clash(n, n == 1 ? 0 : 1, true), 0, LAST_SAYING, -1);
        refused.dueAmong("38: clash, b", Stages::some, (x, n) -> x.clash(n == 1 ? 0 : 1, n, false), 0, LAST_SAYING, -1);
        refused.due("38: clash of one", Stages::some, x -> x.clash(1, 1, false), -6);
        refused.due("38: clash of one", Stages::some, x -> x.clash(0, 0, true), -6);
        refused.dueAmong("39: doubt", Stages::some, (x, n) -> x.doubt(n), 0, 2, -5);
        refused.due("47: restore without an image", HadItFrom::new, x -> x.restore(), -6);
    }

    private static void twoMen() {
        refused.dueAmong("23: could, a", Stages::some, (x, n) -> x.could(n, n == 1 ? 0 : 1), 0, LAST_MAN, -1);
        refused.dueAmong("23: could, b", Stages::some, (x, n) -> x.could(n == 1 ? 0 : 1, n), 0, LAST_MAN, -1);
        refused.dueAmong("41: between, a", Stages::some, (x, n) -> x.between(n, n == 1 ? 0 : 1), 0, LAST_MAN, -1);
        refused.dueAmong("41: between, b", Stages::some, (x, n) -> x.between(n == 1 ? 0 : 1, n), 0, LAST_MAN, -1);
        for (int m = 0; m <= LAST_MAN; m++) {
            int man = m;
            refused.due("23: could, one", Stages::some, x -> x.could(man, man), -6);
            refused.due("41: between, one", Stages::some, x -> x.between(man, man), -6);
        }
    }

    /** Where there are as many as may be. */
    private static void full() {
        refused.dueAmong("12: found, man of 24", Stages::full, (x, n) -> x.found(n, 5, 6), 0, 23, -1);
        refused.dueAmong("13: mark, man of 24", Stages::full, (x, n) -> x.mark(n, 4, 0), 0, 23, -1);
        refused.dueAmong("14: manOf, man of 24", Stages::full, (x, n) -> x.manOf(n, 0), 0, 23, -5);
        refused.dueAmong("23: could, man of 24", Stages::full, (x, n) -> x.could(n, n == 0 ? 1 : 0), 0, 23, -1);
        refused.dueAmong("33: alone, man of 24", Stages::full, (x, n) -> x.alone(n), 0, 23, -1);
        refused.dueAmong("18: rule, rules of 6", Stages::full, (x, n) -> x.rule(n, 3), 0, 5, -5);
        refused.dueAmong("19: force, rules of 6", Stages::full, (x, n) -> x.force(n), -1, 5, -11);
        refused.dueAmong("43: beside, rules of 6", Stages::full, (x, n) -> x.beside(n, 0), -1, 5, -1);
        refused.dueAmong("21: rows, saying of 8", Stages::full, (x, n) -> x.rows(n), 0, 7, -1);
        refused.dueAmong("30: apart, saying of 8", Stages::full, (x, n) -> x.apart(n), 0, 7, -1);
        refused.dueAmong("26: strength, row of 8", Stages::full, (x, n) -> x.strength(7, n), 0, 7, -1);
        refused.dueAmong("6: show, row of 8", Stages::full, (x, n) -> x.show(0, 7, n), 0, 7, -1);
    }

    private static void neverRefused() {
        int[] numbers = {Integer.MIN_VALUE, -1, 0, 3, 7, 8, 24, 100, 401, Integer.MAX_VALUE};
        for (int a : numbers) {
            refused.dueNot("7: holds", Stages::some, x -> x.holds(a));
            refused.dueNot("45: trace", Stages::some, x -> x.trace(a));
            refused.dueNot("48: status", Stages::some, x -> x.status(a));
            for (int b : numbers) {
                refused.dueNot("5: element", Stages::some, x -> x.element(a, b));
                refused.dueNot("15: where", Stages::some, x -> x.where(a, b));
                refused.dueNot("24: when", Stages::some, x -> x.when(a, b));
                refused.dueNot("44: act", Stages::some, x -> x.act(a, b, a, b));
            }
        }
        refused.dueNot("17: fault", Stages::some, x -> x.fault());
        refused.dueNot("46: image", Stages::some, x -> x.image());
    }
}
