/** The empty and the full: none, the last for which there is room, and one more. */
public final class LimitsTest {
    private static final Checks checks = new Checks("LimitsTest");
    private static final int CALLS = 512;

    public static void main(String[] args) {
        noMen();
        noRulesAndSayings();
        emptyRows();
        emptyShelves();
        menFull();
        menByElementsFull();
        journeysFull();
        rulesFull();
        sayingsFull();
        elementsFull();
        sorts();
        fullAgain();
        allCalls();
        checks.end();
    }

    private static void due(String call, long got, long want) {
        checks.due(call, got, want);
    }

    private static void noMen() {
        HadItFrom x = new HadItFrom();
        due("1: men", x.status(0), 0);
        due("11: journey", x.journey(0, 0, 0, 0), -1);
        due("12: found", x.found(0, 0, 0), -1);
        due("13: mark", x.mark(0, 0, 0), -1);
        due("14: manOf", x.manOf(0, 0), -5);
        due("15: where", x.where(0, 0), -1);
        due("23: could", x.could(0, 1), -1);
        due("23: could, one", x.could(0, 0), -1);
        due("24: when", x.when(0, 1), -1);
        due("33: alone", x.alone(0), -1);
        due("34: agree", x.agree(0), -1);
        due("41: between", x.between(0, 1), -1);
        due("42: silent", x.silent(0), -1);
        due("20: book", Desk.book(x, "0 told 1"), -6);
        due("17: fault", x.fault(), 0);
        due("48: of nobody", x.status(11), 9);
        due("48: beyond", x.status(15), 1);
        due("48: wrong", x.status(16), 1);
        due("9: the first", x.man(0, 0, 0, 0, 0), 0);
        due("42: silent of nobody", x.silent(0), 0);
        due("33: alone in nothing", x.alone(0), 0);
        due("34: agrees nowhere", x.agree(0), 0);
        due("23: could, one", x.could(0, 0), -6);
    }

    private static void noRulesAndSayings() {
        HadItFrom x = Desk.withMen(2);
        due("1: rules", x.status(1), 0);
        due("1: sayings", x.status(2), 0);
        due("1: rows", x.status(3), 0);
        due("1: clashes", x.status(4), 0);
        due("18: rule", x.rule(0, 0), -5);
        due("19: force", x.force(0), -11);
        due("19: those at first", x.force(-1), -1);
        due("43: beside", x.beside(0, -1), -1);
        due("43: beside", x.beside(-1, 0), -1);
        due("43: none moves", x.beside(-1, -1), 0);
        due("21: rows", x.rows(0), -1);
        due("22: rowOf", x.rowOf(0, 0, 0), -5);
        due("25: fails", x.fails(0, 0), -11);
        due("26: strength", x.strength(0, 0), -1);
        due("27: stands", x.stands(0, 0), -1);
        due("28: sureness", x.sureness(0, 0, 0), -1);
        due("30: apart", x.apart(0), -1);
        due("31: cut", x.cut(0), -1);
        due("32: knots", x.knots(0), -1);
        due("35: weight", x.weight(0), -1);
        due("36: wordings", x.wordings(0), -1);
        due("37: mouths", x.mouths(0), -1);
        due("38: clash", x.clash(0, 1, true), -1);
        due("39: the set of none", x.doubt(0), 0);
        due("39: its sum", x.doubt(1), 0);
        due("39: it alone", x.doubt(2), 1);
        due("40: like", x.like(0, 0), -11);
        due("44: act", x.act(0, 0, 0, 1), 0);
        due("45: trace", x.trace(0), -1);
        due("46: image", x.image(), 0);
        due("47: restore", x.restore(), 0);
        due("6: show", x.show(0, 0, 0), -1);
        due("6: show nothing", x.show(0, -1, 0), 0);
    }

    private static void emptyRows() {
        HadItFrom x = Desk.withMen(2);
        for (int sort = 0; sort < 4; sort++) {
            due("2: of no elements", x.row(0, sort, 0), 1);
            due("7: holds", x.holds(0), 100 + sort);
            due("3: no element 0", x.set(0, 0, 5), -5);
            due("5: no element 0", x.element(0, 0), 0);
            due("4: none of none", x.copy(0, 0, 0, 0, 0), 1);
            due("4: one of none", x.copy(0, 0, 0, 0, 1), -5);
            due("10: no men", x.men(0, 0, 0), 0);
            due("10: none from 1 on", x.men(0, 1, 0), -5);
            due("16: no letter", x.rules(0), -6);
            due("17: at its end", x.fault(), 0);
            due("20: no letter", x.book(0), -6);
            due("17: at its end", x.fault(), 0);
        }
        Desk.book(x, "0 told 1");
        Desk.book(x, "0 told 1;1 told 0");
        x.mark(0, 4, 0);
        due("29: of no element, all are 0", x.judge(0, 0), -1);
        x.mark(0, 1, 0);
        due("29: of no element", x.judge(1, 0), 0);
        Desk.list(x, 0, 0, 9);
        due("29: of one element", x.judge(1, 0), 1);
        Desk.list(x, 0, 0, 9, 9);
        due("29: of two elements", x.judge(1, 0), -1);
        Desk.list(x, 0, 0, 9, 9, 9);
        due("29: of more than there are rows", x.judge(1, 0), -1);
    }

    private static void emptyShelves() {
        HadItFrom x = new HadItFrom();
        for (int s = 0; s < 8; s++) {
            due("7: at first", x.holds(s), -1);
            due("3: set", x.set(s, 0, 1), -3);
            due("4: copy", x.copy(s, s, 0, 0, 0), -3);
            due("5: element", x.element(s, 0), 0);
            due("8: says", x.says(s, 0), -3);
            due("10: men", x.men(s, 0, 0), -3);
            due("16: rules", x.rules(s), -3);
            due("20: book", x.book(s), -3);
            due("6: show nothing", x.show(s, -1, 0), 0);
            due("7: still", x.holds(s), -1);
            due("2: row", x.row(s, s % 4, s), 1);
            due("7: numbers", x.holds(s), 100 + s % 4);
            due("6: show nothing", x.show(s, -1, 0), 0);
            due("7: again", x.holds(s), -1);
            due("3: set", x.set(s, 0, 1), -3);
        }
        due("17: none came to a row", x.fault(), -1);
    }

    private static void menFull() {
        HadItFrom x = new HadItFrom();
        for (int n = 0; n < 24; n++) {
            due("9: man", x.man(n, 400 - n, n % 8, n % 6, 7), n);
        }
        due("9: one more", x.man(0, 1, 2, 3, 4), -7);
        due("48: men", x.status(0), 24);
        for (int n = 0; n < 24; n++) {
            due("14: born of " + n, x.manOf(n, 0), n);
            due("14: died of " + n, x.manOf(n, 1), 400 - n);
            due("14: place of " + n, x.manOf(n, 2), n % 8);
            due("14: mark of " + n, x.manOf(n, 3), n % 6);
            due("14: journeys of " + n, x.manOf(n, 4), 0);
        }
        due("14: no man 24", x.manOf(24, 0), -5);
        Desk.rules(x, "near 0");
        x.force(0);
        due("42: of all others", x.silent(23), (1 << 23) - 1);
        due("41: all others", x.between(0, 23), (1 << 23) - 2);
        Desk.book(x, "23 told 22");
        due("42: but one", x.silent(23), (1 << 22) - 1);
        due("20: the last man", x.rowOf(0, 0, 10), 23);
    }

    private static void menByElementsFull() {
        for (int men = 21; men <= 24; men++) {
            HadItFrom x = Desk.withMen(men);
            Desk.list(x, 0, 2, 1, 9, 0, 0, 0, 2, 9, 0, 0, 0);
            int room = Math.min(2, 24 - men);
            due("10: ahead of " + men, x.men(0, 0, 10), room);
            due("10: then", x.status(0), men + room);
            due("10: no refusal", x.status(17) + x.status(16), 0);
            due("14: the first that came", x.manOf(men, 0), room > 0 ? 1 : -5);
            due("14: the second that came", x.manOf(men + 1, 0), room > 1 ? 2 : -5);
        }
        HadItFrom x = new HadItFrom();
        x.row(0, 0, 100);
        due("10: twenty of a hundred elements", x.men(0, 0, 100), 20);
        due("10: four more", x.men(0, 0, 100), 4);
        due("10: none more", x.men(0, 0, 100), 0);
        due("10: men", x.status(0), 24);
        due("10: the last elements", x.men(0, 95, 5), 0);
        due("10: beyond the last", x.men(0, 96, 5), -5);
    }

    private static void journeysFull() {
        HadItFrom x = Desk.withMen(24);
        for (int man = 0; man < 24; man += 23) {
            for (int n = 1; n <= 3; n++) {
                due("11: journey " + n, x.journey(man, n, n, n), n);
                due("14: journeys", x.manOf(man, 4), n);
            }
            due("11: one more", x.journey(man, 4, 4, 4), -7);
            due("14: journeys", x.manOf(man, 4), 3);
            due("15: not on the one more", x.where(man, 4), 0);
            due("15: on the third", x.where(man, 3), 3);
        }
        due("11: others have none", x.manOf(1, 4) + x.manOf(22, 4), 0);
    }

    private static void rulesFull() {
        HadItFrom x = new HadItFrom();
        for (int n = 0; n < 6; n++) {
            due("16: rules", Desk.rules(x, "sure " + n), n);
            due("48: rules", x.status(1), n + 1);
        }
        due("16: one more", Desk.rules(x, "sure 6"), -7);
        due("48: rules", x.status(1), 6);
        for (int n = 0; n < 6; n++) {
            due("18: rule", x.rule(n, 3), n);
            due("19: which were", x.force(n), n - 1);
        }
        due("18: no seventh", x.rule(6, 3), -5);
        due("19: no seventh", x.force(6), -11);
        due("19: the sixth stays", x.force(-1), 5);
    }

    private static void sayingsFull() {
        HadItFrom x = Desk.withMen(9);
        for (int n = 0; n < 8; n++) {
            due("20: book", Desk.book(x, n + " told 8 word " + n), n);
            due("48: sayings", x.status(2), n + 1);
            due("48: rows", x.status(3), n + 1);
        }
        due("20: one more", Desk.book(x, "0 told 1"), -7);
        due("48: sayings", x.status(2), 8);
        due("48: rows", x.status(3), 8);
        for (int n = 0; n < 8; n++) {
            due("22: man 0 of " + n, x.rowOf(n, 0, 10), n);
            due("36: wordings of " + n, x.wordings(n), 1 << n);
            due("33: alone " + n, x.alone(n), 1 << n);
        }
        for (int n = 0; n < 7; n++) {
            due("38: clash", x.clash(n, 7, true), 1);
        }
        due("48: clashes", x.status(4), 7);
        due("39: the last one", x.doubt(0), 128);
        due("39: the last one", x.doubt(1), 9);
    }

    private static void elementsFull() {
        HadItFrom x = new HadItFrom();
        for (int s = 0; s < 8; s++) {
            due("2: a hundred", x.row(s, 3, 100), 1);
            due("3: the last", x.set(s, 99, s + 1), 1);
            due("3: one more", x.set(s, 100, 9), -5);
            due("5: one more", x.element(s, 100), 0);
        }
        for (int s = 0; s < 8; s++) {
            due("5: the last of " + s, x.element(s, 99), s + 1);
            due("5: the first of " + s, x.element(s, 0), 0);
        }
        due("4: all", x.copy(0, 7, 0, 0, 100), 1);
        due("5: came", x.element(7, 99), 1);
        due("4: all but one, up", x.copy(7, 7, 0, 1, 99), 1);
        due("4: the last to the first", x.copy(6, 7, 99, 0, 1), 1);
        due("5: came", x.element(7, 0), 7);
        due("4: none at the end", x.copy(0, 7, 100, 100, 0), 1);
        due("4: one more", x.copy(0, 7, 0, 0, 101), -5);
        due("2: one more", x.row(0, 3, 101), -7);
        due("5: nothing changed", x.element(0, 99), 1);
        due("2: fewer", x.row(0, 3, 99), 1);
        due("3: fewer", x.set(0, 99, 1), -5);
        due("2: again a hundred", x.row(0, 3, 100), 1);
        due("5: the last is 0 again", x.element(0, 99), 0);
    }

    private static void sorts() {
        HadItFrom x = new HadItFrom();
        long[] tops = {127, 32767, 2147483647L, Long.MAX_VALUE};
        for (int sort = 0; sort < 4; sort++) {
            x.row(0, sort, 6);
            long[] put = {tops[sort], tops[sort] + 1, -tops[sort] - 1, -tops[sort] - 2, -1, 2 * tops[sort] + 2};
            long[] kept = {tops[sort], -tops[sort] - 1, -tops[sort] - 1, tops[sort], -1, 0};
            for (int i = 0; i < put.length; i++) {
                due("3: set", x.set(0, i, put[i]), 1);
                due("5: " + put[i] + " in sort " + sort, x.element(0, i), kept[i]);
            }
            x.row(1, sort, 6);
            x.copy(0, 1, 0, 0, 6);
            due("4: came in sort " + sort, x.element(1, 1), kept[1]);
        }
        for (int a = 0; a < 4; a++) {
            for (int b = 0; b < 4; b++) {
                x.row(0, a, 1);
                x.row(1, b, 1);
                due("4: from sort " + a + " to sort " + b, x.copy(0, 1, 0, 0, 1), a == b ? 1 : -2);
            }
        }
    }

    /** What an image of few has forgotten may come again, till there is no room. */
    private static void fullAgain() {
        HadItFrom x = Desk.withMen(2);
        x.image();
        for (int turn = 0; turn < 2; turn++) {
            for (int n = 2; n < 24; n++) {
                due("9: man", x.man(0, 1, 0, 0, 0), n);
            }
            due("9: no room", x.man(0, 1, 0, 0, 0), -7);
            for (int n = 1; n <= 3; n++) {
                due("11: journey", x.journey(1, 0, 0, 0), n);
            }
            due("11: no room", x.journey(1, 0, 0, 0), -7);
            Desk.write(x, 0, 0, "age 1");
            for (int n = 0; n < 6; n++) {
                due("16: rules", x.rules(0), n);
            }
            due("16: no room", x.rules(0), -7);
            Desk.write(x, 0, 0, "0 told 1");
            for (int n = 0; n < 8; n++) {
                due("20: book", x.book(0), n);
            }
            due("20: no room", x.book(0), -7);
            due("47: restore", x.restore(), 0);
            due("48: men", x.status(0), 2);
            due("48: rules", x.status(1), 0);
        }
        due("48: no room", x.status(17), 8);
    }

    /** The last of 512 calls answers as the first ones. */
    private static void allCalls() {
        HadItFrom x = Desk.withMen(2);
        Desk.write(x, 0, 0, "0 told 1;whole 1 told 0");
        int calls = 2 + 1 + 23;
        for (int n = 0; n < 8; n++) {
            due("20: book", x.book(0), n);
            calls++;
        }
        while (calls < CALLS - 3) {
            due("20: book, again and again", x.book(0), -7);
            calls++;
        }
        due("48: refusals", x.status(17), CALLS - 3 - 34);
        due("44: act", x.act(7, 1, 1, 1), 6);
        due("48: bodies", x.status(5), 3);
    }
}
