/** Promises 16 to 19: rules. */
public final class RulesTest {
    private static final Checks checks = new Checks("RulesTest");
    private static final int[] FIRST = {10, 2, 3, 9, 5, 2, 0, 6, 1, 2, 3, 2, 3, 1};
    private static final String[] WORDS = {
        "age", "near", "unknown", "sure", "forgets", "late", "lies", "hides", "from", "heard", "gap", "raise", "bar", "more"
    };

    public static void main(String[] args) {
        rules();
        faults();
        fault();
        rule();
        force();
        checks.end();
    }

    private static void due(String call, long got, long want) {
        checks.due(call, got, want);
    }

    private static void rules() {
        HadItFrom x = Desk.withMen(2);
        Desk.book(x, "0 told 1");
        x.show(1, 0, 0);
        due("16: no shelf", x.rules(8), -1);
        due("16: no shelf", x.rules(-1), -1);
        due("16: a row of men", x.rules(1), -2);
        due("16: nothing", x.rules(2), -3);
        due("16: rules", Desk.rules(x, "age 7"), 0);
        due("16: numbers", Desk.rules(x, "bar 99;more 09;near 0;bar 5"), 1);
        due("16: later counts", x.rule(1, 12), 5);
        due("16: two digits", x.rule(1, 13), 9);
        for (int i = 0; i < 14; i++) {
            int want = i == 1 ? 0 : i == 12 ? 5 : i == 13 ? 9 : FIRST[i];
            due("16: number " + i, x.rule(1, i), want);
        }
        due("16: the ones before", x.rule(0, 0) * 100 + x.rule(0, 12), 703);
        for (int n = 2; n < 6; n++) {
            due("16: rules", Desk.rules(x, "age 99"), n);
        }
        due("16: a fault, and no room", Desk.rules(x, "age 100"), -6);
        due("16: no room", Desk.rules(x, "age 99"), -7);
        due("16: no fault then", x.fault(), -1);
        due("16: rules", x.status(1), 6);
        due("16: counted", x.status(11) * 10000 + x.status(12) * 1000 + x.status(13) * 100 + x.status(16) * 10 + x.status(17), 21111);
        x = new HadItFrom();
        long[] letters = {97 + (1L << 32), 103, 101 - (1L << 40), 32, 53};
        Desk.list(x, 0, 3, letters);
        due("16: longs as ints", x.rules(0), 0);
        due("16: age 5", x.rule(0, 0), 5);
    }

    private static void faults() {
        HadItFrom x = new HadItFrom();
        int[] most = {99, 2, 9, 9, 9, 9, 9, 9, 9, 9, 9, 9, 99, 99};
        for (int i = 0; i < 14; i++) {
            int after = WORDS[i].length() + 1;
            x = new HadItFrom();
            due("16: " + WORDS[i], Desk.rules(x, WORDS[i] + " " + most[i]), 0);
            due("16: " + WORDS[i], x.rule(0, i), most[i]);
            if (most[i] < 99) {
                due("16: " + WORDS[i], Desk.rules(x, WORDS[i] + " " + (most[i] + 1)), -6);
                due("16: " + WORDS[i], x.fault(), after);
                due("16: " + WORDS[i], Desk.rules(x, WORDS[i] + " 99"), -6);
                due("16: " + WORDS[i], x.fault(), after);
            }
        }
        String[] texts = {
            "", "a", "age", "age ", "age x", "age  5", "age 5;", "age 5 ;", "age 5; age 5", "x", "aga 5", "bag 5", "age 123",
            "age 5;;", "near 3", "near 22", "for 5", "fox", "hear 3", "he", "hix", "lat", "lix", "l", "sure 9;sure 10",
            "gap 9x", "agE 1", "age5", ";", " age 1", "age 1,", "near 2;age 0;unknown 0;late 9;"
        };
        int[] places = {
            0, 1, 3, 4, 4, 4, 6, 5, 6, 0, 2, 2, 6,
            6, 5, 5, 3, 2, 4, 2, 2, 3, 2, 1, 12,
            5, 2, 3, 0, 0, 5, 30
        };
        for (int i = 0; i < texts.length; i++) {
            due("16: " + texts[i], Desk.rules(x, texts[i]), -6);
            due("17: " + texts[i], x.fault(), places[i]);
        }
        due("16: nothing came", x.status(1), 1);
    }

    private static void fault() {
        HadItFrom x = Desk.withMen(2);
        due("17: none yet", x.fault(), -1);
        x.rules(0);
        due("17: none came to a row", x.fault(), -1);
        Desk.rules(x, "age 5;x");
        due("17: of rules", x.fault(), 6);
        x.rules(0);
        x.rules(9);
        x.book(0);
        Desk.book(x, "0 told 1");
        due("17: of a book, none", x.fault(), -1);
        Desk.book(x, "0 told");
        due("17: of a book", x.fault(), 6);
        x.show(0, 0, 0);
        x.book(0);
        x.rules(0);
        due("17: none came to a row of numbers", x.fault(), 6);
        Desk.rules(x, "age 5");
        due("17: of rules, none", x.fault(), -1);
    }

    private static void rule() {
        HadItFrom x = new HadItFrom();
        due("18: no such ones", x.rule(0, 0), -5);
        due("18: those at first have no number", x.rule(-1, 0), -5);
        Desk.rules(x, "raise 7;lies 4");
        for (int i = 0; i < 14; i++) {
            due("18: number " + i, x.rule(0, i), i == 11 ? 7 : i == 6 ? 4 : FIRST[i]);
        }
        due("18: beyond", x.rule(0, 14), -5);
        due("18: before", x.rule(0, -1), -5);
        due("18: counted", x.status(15), 4);
    }

    private static void force() {
        HadItFrom x = Desk.withMen(2);
        Desk.book(x, "0 told 1");
        Desk.rules(x, "sure 4");
        Desk.rules(x, "sure 5");
        due("19: at first", x.strength(0, 0), 9);
        due("19: none were", x.force(1), -1);
        due("19: in force", x.strength(0, 0), 5);
        due("19: 1 were", x.force(0), 1);
        due("19: in force", x.strength(0, 0), 4);
        due("19: no such ones", x.force(2), -11);
        due("19: no such ones", x.force(-2), -11);
        due("19: 0 were", x.force(-1), 0);
        due("19: at first again", x.strength(0, 0), 9);
        due("19: counted", x.status(11), 2);
    }
}
