/** Two refusals that fit at once: the first of them in their order is answered and counted, and nothing else changes. */
public final class OrderTest {
    private static final Checks checks = new Checks("OrderTest");
    private static final Refused refused = new Refused(checks);

    public static void main(String[] args) {
        row();
        set();
        copy();
        says();
        men();
        ofMen();
        texts();
        sayings();
        checks.end();
    }

    private static void row() {
        refused.due("2: -1 and -4", Stages::some, x -> x.row(8, 0, -1), -1);
        refused.due("2: -1 and -6", Stages::some, x -> x.row(-1, 4, 1), -1);
        refused.due("2: -1 and -7", Stages::some, x -> x.row(8, 3, 101), -1);
        refused.due("2: -4 and -6", Stages::some, x -> x.row(0, 4, -1), -4);
        refused.due("2: -4 and -6", Stages::some, x -> x.row(0, -1, -1), -4);
        refused.due("2: -6 and -7", Stages::some, x -> x.row(0, 4, 101), -6);
        refused.due("2: -6 and -7", Stages::some, x -> x.row(0, -1, 101), -6);
    }

    private static void set() {
        refused.due("3: -1 and -5", Stages::some, x -> x.set(8, -1, 0), -1);
        refused.due("3: -2 and -5", Stages::some, x -> x.set(Stages.MEN, -1, 0), -2);
        refused.due("3: -2 and -5", Stages::some, x -> x.set(Stages.MEN, 100, 0), -2);
        refused.due("3: -3 and -5", Stages::some, x -> x.set(Stages.NOTHING, 0, 0), -3);
        refused.due("3: -3 and -5", Stages::some, x -> x.set(Stages.NOTHING, -1, 0), -3);
    }

    private static void copy() {
        int numbers = Stages.NUMBERS;
        int men = Stages.MEN;
        int nothing = Stages.NOTHING;
        int other = Stages.OTHER_SORT;
        refused.due("4: -1 and -2", Stages::some, x -> x.copy(8, men, 0, 0, 1), -1);
        refused.due("4: -1 and -2", Stages::some, x -> x.copy(men, 8, 0, 0, 1), -1);
        refused.due("4: -1 and -3", Stages::some, x -> x.copy(-1, nothing, 0, 0, 1), -1);
        refused.due("4: -1 and -3", Stages::some, x -> x.copy(nothing, -1, 0, 0, 1), -1);
        refused.due("4: -1 and -4", Stages::some, x -> x.copy(8, numbers, 0, 0, -1), -1);
        refused.due("4: -1 and -5", Stages::some, x -> x.copy(numbers, 8, -1, 0, 1), -1);
        refused.due("4: -2 and -3", Stages::some, x -> x.copy(men, nothing, 0, 0, 1), -2);
        refused.due("4: -2 and -3", Stages::some, x -> x.copy(nothing, men, 0, 0, 1), -2);
        refused.due("4: -2 and -4, from men", Stages::some, x -> x.copy(men, numbers, 0, 0, -1), -2);
        refused.due("4: -2 and -4, to men", Stages::some, x -> x.copy(numbers, men, 0, 0, -1), -2);
        refused.due("4: -2 and -4, of two sorts", Stages::some, x -> x.copy(numbers, other, 0, 0, -1), -2);
        refused.due("4: -2 and -5, from men", Stages::some, x -> x.copy(men, numbers, -1, 0, 1), -2);
        refused.due("4: -2 and -5, to men", Stages::some, x -> x.copy(numbers, men, 0, 100, 1), -2);
        refused.due("4: -2 and -5, of two sorts", Stages::some, x -> x.copy(numbers, other, 0, 0, 100), -2);
        refused.due("4: -2, men twice", Stages::some, x -> x.copy(men, men, 0, 0, 0), -2);
        refused.due("4: -3, both", Stages::some, x -> x.copy(nothing, nothing, 0, 0, 0), -3);
        refused.due("4: -3, and no two sorts", Stages::some, x -> x.copy(nothing, other, 0, 0, 1), -3);
        refused.due("4: -3, and no two sorts", Stages::some, x -> x.copy(numbers, nothing, 0, 0, 1), -3);
        refused.due("4: -3 and -4", Stages::some, x -> x.copy(nothing, numbers, 0, 0, -1), -3);
        refused.due("4: -3 and -4", Stages::some, x -> x.copy(numbers, nothing, 0, 0, -1), -3);
        refused.due("4: -3 and -5", Stages::some, x -> x.copy(nothing, numbers, -1, 0, 1), -3);
        refused.due("4: -3 and -5", Stages::some, x -> x.copy(numbers, nothing, 10, 0, 1), -3);
        refused.due("4: -4 and -5, i", Stages::some, x -> x.copy(numbers, numbers, -1, 0, -1), -4);
        refused.due("4: -4 and -5, j", Stages::some, x -> x.copy(numbers, numbers, 0, -1, -1), -4);
        refused.due("4: -4 and -5, far", Stages::some, x -> x.copy(numbers, numbers, 99, 99, -1), -4);
    }

    private static void says() {
        refused.due("8: -1 and -2, a kind and numbers", Stages::some, x -> x.says(Stages.NUMBERS, 7), -1);
        refused.due("8: -1 and -2, a kind and numbers", Stages::some, x -> x.says(Stages.NUMBERS, -1), -1);
        refused.due("8: -1 and -3, a kind and nothing", Stages::some, x -> x.says(Stages.NOTHING, 7), -1);
        refused.due("8: -1, a shelf and a kind", Stages::some, x -> x.says(8, 7), -1);
        refused.due("8: -2, numbers, whatever kind", Stages::some, x -> x.says(Stages.NUMBERS, 0), -2);
        refused.due("8: -2, numbers, whatever kind", Stages::some, x -> x.says(Stages.NUMBERS, 6), -2);
        refused.due("8: -3, nothing, whatever kind", Stages::some, x -> x.says(Stages.NOTHING, 6), -3);
    }

    private static void men() {
        refused.due("10: -1 and -4", Stages::some, x -> x.men(8, 0, -5), -1);
        refused.due("10: -1 and -5", Stages::some, x -> x.men(-1, -1, 5), -1);
        refused.due("10: -1 and -6", Stages::some, x -> x.men(8, 0, 4), -1);
        refused.due("10: -2 and -4", Stages::some, x -> x.men(Stages.MEN, 0, -5), -2);
        refused.due("10: -2 and -5", Stages::some, x -> x.men(Stages.MEN, -1, 5), -2);
        refused.due("10: -2 and -6", Stages::some, x -> x.men(Stages.MEN, 0, 4), -2);
        refused.due("10: -3 and -4", Stages::some, x -> x.men(Stages.NOTHING, 0, -5), -3);
        refused.due("10: -3 and -5", Stages::some, x -> x.men(Stages.NOTHING, 0, 5), -3);
        refused.due("10: -3 and -6", Stages::some, x -> x.men(Stages.NOTHING, 0, 4), -3);
        refused.due("10: -4 and -5", Stages::some, x -> x.men(Stages.NUMBERS, -1, -5), -4);
        refused.due("10: -4 and -6", Stages::some, x -> x.men(Stages.NUMBERS, 0, -4), -4);
        refused.due("10: -5 and -6, below", Stages::some, x -> x.men(Stages.NUMBERS, -1, 4), -5);
        refused.due("10: -5 and -6, beyond", Stages::some, x -> x.men(Stages.NUMBERS, 7, 4), -5);
        refused.due("10: -5 and -6, too many", Stages::some, x -> x.men(Stages.NUMBERS, 0, 11), -5);
        refused.due("10: -6, and no room", Stages::full, x -> x.men(Stages.NUMBERS, 0, 4), -6);
        refused.due("10: -6, and none that can be one", Stages::some, x -> x.men(Stages.OTHER_SORT, 0, 3), -6);
    }

    private static void ofMen() {
        refused.due("9: -7", Stages::full, x -> x.man(0, 9, 0, 0, 0), -7);
        refused.due("9: -6 and -7, born", Stages::full, x -> x.man(-1, 9, 0, 0, 0), -6);
        refused.due("9: -6 and -7, died", Stages::full, x -> x.man(0, 401, 0, 0, 0), -6);
        refused.due("9: -6 and -7, died before", Stages::full, x -> x.man(9, 8, 0, 0, 0), -6);
        refused.due("9: -6 and -7, place", Stages::full, x -> x.man(0, 9, 8, 0, 0), -6);
        refused.due("9: -6 and -7, mark", Stages::full, x -> x.man(0, 9, 0, 6, 0), -6);
        refused.due("9: -6 and -7, late", Stages::full, x -> x.man(0, 9, 0, 3, 401), -6);
        refused.due("11: -1 and -6", Stages::some, x -> x.journey(4, 8, 0, 0), -1);
        refused.due("11: -1 and -6", Stages::some, x -> x.journey(-1, 0, 1, 0), -1);
        refused.due("11: -7", Stages::some, x -> x.journey(0, 1, 2, 3), -7);
        refused.due("11: -7 of the last man", Stages::full, x -> x.journey(23, 1, 2, 3), -7);
        refused.due("11: -6 and -7, place", Stages::some, x -> x.journey(0, 8, 2, 3), -6);
        refused.due("11: -6 and -7, place", Stages::some, x -> x.journey(0, -1, 2, 3), -6);
        refused.due("11: -6 and -7, from", Stages::some, x -> x.journey(0, 1, -1, 3), -6);
        refused.due("11: -6 and -7, to", Stages::some, x -> x.journey(0, 1, 2, 401), -6);
        refused.due("11: -6 and -7, to before from", Stages::some, x -> x.journey(0, 1, 4, 3), -6);
        refused.due("12: -1 and -6", Stages::some, x -> x.found(4, 1, 0), -1);
        refused.due("13: -1 and -6, mark", Stages::some, x -> x.mark(4, 6, 0), -1);
        refused.due("13: -1 and -6, late", Stages::some, x -> x.mark(-1, 3, -1), -1);
        refused.due("14: -5 twice", Stages::some, x -> x.manOf(4, 5), -5);
        refused.due("23: -1 and -6", Stages::some, x -> x.could(4, 4), -1);
        refused.due("23: -1 and -6", Stages::some, x -> x.could(-1, -1), -1);
        refused.due("41: -1 and -6", Stages::some, x -> x.between(4, 4), -1);
        refused.due("41: -1 and -6", Stages::some, x -> x.between(-1, -1), -1);
    }

    private static HadItFrom fullWith(String letters) {
        HadItFrom x = Stages.full();
        Desk.write(x, Stages.FAULTY, 0, letters);
        return x;
    }

    /** What is read without a fault leaves none, though there be no room. */
    private static void texts() {
        refused.due("16: -7", () -> fullWith("age 1"), x -> x.rules(Stages.FAULTY), -7, -1);
        refused.due("16: -6 and -7", () -> fullWith("age 100"), x -> x.rules(Stages.FAULTY), -6, 6);
        refused.due("16: -6 and -7, of a number", () -> fullWith("near 3"), x -> x.rules(Stages.FAULTY), -6, 5);
        refused.due("16: -6 and -7, no letter", () -> fullWith(""), x -> x.rules(Stages.FAULTY), -6, 0);
        refused.due("20: -7", () -> fullWith("0 told 1"), x -> x.book(Stages.FAULTY), -7, -1);
        refused.due("20: -6 and -7", () -> fullWith("0 told 1 word 8"), x -> x.book(Stages.FAULTY), -6, 14);
        refused.due("20: -6 and -7, of a number", () -> fullWith("0 told 24"), x -> x.book(Stages.FAULTY), -6, 7);
        refused.due("20: -6 and -7, no letter", () -> fullWith(""), x -> x.book(Stages.FAULTY), -6, 0);
        refused.due("16: -1, and no room", Stages::full, x -> x.rules(8), -1);
        refused.due("16: -2, and no room", Stages::full, x -> x.rules(Stages.MEN), -2);
        refused.due("16: -3, and no room", Stages::full, x -> x.rules(Stages.NOTHING), -3);
        refused.due("20: -1, and no room", Stages::full, x -> x.book(8), -1);
        refused.due("20: -2, and no room", Stages::full, x -> x.book(Stages.MEN), -2);
        refused.due("20: -3, and no room", Stages::full, x -> x.book(Stages.NOTHING), -3);
    }

    private static void sayings() {
        refused.due("29: -11 and -12", Stages::some, x -> x.judge(2, Stages.MEN), -11);
        refused.due("29: -11 and -13", Stages::some, x -> x.judge(-1, Stages.NOTHING), -11);
        refused.due("29: -11 twice", Stages::some, x -> x.judge(2, 8), -11);
        refused.due("38: -1 and -6", Stages::some, x -> x.clash(2, 2, true), -1);
        refused.due("38: -1 and -6", Stages::some, x -> x.clash(-1, -1, false), -1);
        refused.due("18: -5 twice", Stages::some, x -> x.rule(2, 14), -5);
        refused.due("22: -5 thrice", Stages::some, x -> x.rowOf(2, 9, 99), -5);
        refused.due("28: -1 thrice", Stages::some, x -> x.sureness(2, 9, 99), -1);
        refused.due("43: -1 twice", Stages::some, x -> x.beside(2, -2), -1);
        refused.due("6: -1 thrice", Stages::some, x -> x.show(8, 2, 9), -1);
    }
}
