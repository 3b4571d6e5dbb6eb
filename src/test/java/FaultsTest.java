/** The fault of rules and books at each place of their texts, and at both ends of each number in them. */
public final class FaultsTest {
    private static final Checks checks = new Checks("FaultsTest");
    private static final String[] WORDS = {
        "age", "near", "unknown", "sure", "forgets", "late", "lies", "hides", "from", "heard", "gap", "raise", "bar", "more"
    };
    private static final int[] MOST = {99, 2, 9, 9, 9, 9, 9, 9, 9, 9, 9, 9, 99, 99};
    private static final String[] KINDS = {"", "whole ", "gap ", "hidden ", "hung ", "raised ", "made "};
    private static final String[] LINKS = {" told ", " from ", " heard "};

    private interface Reader {
        int read(HadItFrom x, int shelf);
    }

    private interface Due {
        void of(String text, int fault);
    }

    public static void main(String[] args) {
        eachPlace();
        numbersOfRules();
        laterCounts();
        menThatThereAre();
        unlikeMen();
        howManyMen();
        howManyRows();
        wordings();
        kindsAndLinks();
        letters();
        sizes();
        checks.end();
    }

    private static void due(String call, long got, long want) {
        checks.due(call, got, want);
    }

    private static void dueRead(String call, HadItFrom x, String text, Reader reader, int fault) {
        Desk.write(x, 0, 0, text);
        due(call + " of " + text, reader.read(x, 0), fault == -1 ? 0 : -6);
        due("17: fault of " + text, x.fault(), fault);
    }

    private static void dueRules(String text, int fault) {
        dueRead("16: rules", new HadItFrom(), text, (x, s) -> x.rules(s), fault);
    }

    private static void dueBook(int men, String text, int fault) {
        dueRead("20: book", Desk.withMen(men), text, (x, s) -> x.book(s), fault);
    }

    /** A bar stands behind each letter with which the text may end. */
    private static void eachPlace() {
        String[] rules = {
            "age 1|2|;near 2|;unknown 0|9|;sure 9|;forgets 0|0|;late 5|;lies 1|;hides 6|",
            "from 1|;heard 2|;gap 3|;raise 4|;bar 9|9|;more 0|7|;near 0|1|",
            "age 1|;age 2|;age 3|;age 4|;age 5|;age 6|;age 7|;age 8|;age 9|;age 0|;age 1|;age 2|;age 3|;age 4|;age 5|"
        };
        for (String marked : rules) {
            eachPlaceOf(marked, FaultsTest::dueRules);
        }
        String[] books = {
            "0 told 1|2| from 2|3| heard 3| word 7|;whole 4 told 0|5|;gap 6 heard 7| told 8|;hidden 9 from 1|0|",
            "hung 1 told 2|;raised 2 told 3| word 0|;made 4 from 5|;0 told 1|;0 told 1|;0 told 1|;0 told 1|;0 told 1|",
            "9 told 1| told 2| told 3| told 4| told 5| told 6| told 7|",
            "9 told 1| from 2| heard 3| told 4| told 5| told 6| told 7| word 3|;0 told 1|"
        };
        for (String marked : books) {
            eachPlaceOf(marked, (text, fault) -> dueBook(24, text, fault));
        }
    }

    private static void eachPlaceOf(String marked, Due due) {
        String text = marked.replace("|", "");
        int at = 0;
        due.of("", 0);
        for (int place = 0; place < text.length(); place++) {
            at++;
            boolean mayEnd = at < marked.length() && marked.charAt(at) == '|';
            at += mayEnd ? 1 : 0;
            due.of(text.substring(0, place + 1), mayEnd ? -1 : place + 1);
            due.of(text.substring(0, place) + "~" + text.substring(place + 1), place);
            due.of(text.substring(0, place) + "~", place);
            due.of(text.substring(0, place) + "~" + text.substring(place), place);
        }
        due.of(text, -1);
        due.of(text + "~", text.length());
    }

    private static void numbersOfRules() {
        for (int word = 0; word < WORDS.length; word++) {
            String before = WORDS[word] + " ";
            for (int n = 0; n <= 99; n++) {
                int fault = n <= MOST[word] ? -1 : before.length();
                if (n < 10) {
                    dueRules(before + n, fault);
                }
                dueRules(before + n / 10 + n % 10, fault);
                dueRules(before + n / 10 + n % 10 + "0", fault == -1 ? before.length() + 2 : fault);
            }
            HadItFrom x = new HadItFrom();
            due("16: the most of " + WORDS[word], Desk.rules(x, before + MOST[word]), 0);
            due("16: the least of " + WORDS[word], Desk.rules(x, before + "00"), 1);
            due("18: the most of " + WORDS[word], x.rule(0, word), MOST[word]);
            due("18: the least of " + WORDS[word], x.rule(1, word), 0);
        }
    }

    private static void laterCounts() {
        for (int word = 0; word < WORDS.length; word++) {
            HadItFrom x = new HadItFrom();
            Desk.rules(x, WORDS[word] + " 2;" + WORDS[word] + " 1");
            Desk.rules(x, WORDS[word] + " 1;age 3;" + WORDS[word] + " 2");
            due("16: later counts of " + WORDS[word], x.rule(0, word), 1);
            due("16: later counts of " + WORDS[word], x.rule(1, word), 2);
        }
    }

    private static void menThatThereAre() {
        for (int men = 2; men <= 24; men++) {
            dueBook(men, (men - 1) + " told 0", -1);
            dueBook(men, men + " told 0", 0);
            dueBook(men, "99 told 0", 0);
            dueBook(men, "0 told " + (men - 1), -1);
            dueBook(men, "0 told " + men, 7);
            dueBook(men, "0 told 1;0 told " + men + ";", 16);
            dueBook(men, "00 told 0" + Math.min(9, men - 1), -1);
        }
        dueBook(0, "0 told 1", 0);
        dueBook(0, "", 0);
        dueBook(1, "0 told 0", 7);
        dueBook(1, "0 told 1", 7);
        dueBook(1, "0", 1);
        dueBook(24, "230 told 1", 2);
        dueBook(24, "240 told 1", 0);
        dueBook(24, "1 told 023", 9);
        HadItFrom x = Desk.withMen(2);
        due("20: no such man", Desk.book(x, "0 told 2"), -6);
        due("17: no such man", x.fault(), 7);
        x.man(0, 1, 0, 0, 0);
        due("20: there he is", Desk.book(x, "0 told 2"), 0);
        due("17: there he is", x.fault(), -1);
    }

    private static void unlikeMen() {
        String row = "0 told 1 told 2 told 3 told 4 told 5 told 6 told ";
        for (int man = 0; man < 7; man++) {
            dueBook(24, row + man, row.length());
            dueBook(24, row + "0" + man, row.length());
        }
        dueBook(24, row + "7", -1);
        dueBook(24, row + "23", -1);
        dueBook(24, "23 told 23", 8);
        dueBook(24, "0 told 1;1 told 0;0 told 1", -1);
        dueBook(24, "2 told 1 told 2;0 told 1 told 0", 14);
    }

    private static void howManyMen() {
        StringBuilder row = new StringBuilder("0");
        for (int men = 1; men <= 9; men++) {
            dueBook(24, row.toString(), men == 1 ? 1 : men <= 8 ? -1 : 51);
            dueBook(24, row + " word 1", men == 1 ? 2 : men <= 8 ? -1 : 51);
            dueBook(24, row + ";0 told 1", men == 1 ? 1 : men <= 8 ? -1 : 51);
            if (men >= 2 && men <= 8) {
                HadItFrom x = Desk.withMen(24);
                Desk.book(x, row.toString());
                due("22: how many", x.rowOf(0, 0, 1), men);
                due("22: the last man", x.rowOf(0, 0, 9 + men), men - 1);
                due("22: no man more", x.rowOf(0, 0, 10 + men), -5);
                due("22: the last link", x.rowOf(0, 0, 18 + men), 0);
                due("22: no link more", x.rowOf(0, 0, 19 + men), -5);
            }
            row.append(" told ").append(men);
        }
    }

    private static void howManyRows() {
        StringBuilder book = new StringBuilder("0 told 1");
        for (int rows = 1; rows <= 10; rows++) {
            dueBook(2, book.toString(), rows <= 8 ? -1 : 71);
            dueBook(2, book + ";", rows < 8 ? 9 * rows : 71);
            if (rows <= 8) {
                HadItFrom x = Desk.withMen(2);
                Desk.book(x, book.toString());
                due("21: rows", x.rows(0), rows);
                due("48: rows in all", x.status(3), rows);
            }
            book.append(";0 told 1");
        }
    }

    private static void wordings() {
        for (int n = 0; n <= 9; n++) {
            dueBook(2, "0 told 1 word " + n, n <= 7 ? -1 : 14);
            dueBook(2, "0 told 1 word " + n + ";1 told 0", n <= 7 ? -1 : 14);
            dueBook(2, "0 told 1 word " + n + n, n <= 7 ? 15 : 14);
            HadItFrom x = Desk.withMen(2);
            Desk.book(x, "0 told 1 word " + n + ";0 told 1");
            due("22: wording", x.rowOf(0, 0, 2), n <= 7 ? n : -5);
            due("22: without word", x.rowOf(0, 1, 2), n <= 7 ? 0 : -5);
        }
        dueBook(3, "0 told 1 word 1 told 2", 15);
        dueBook(3, "0 told 1 word 1 word 1", 15);
        dueBook(3, "0 word 1", 2);
    }

    private static void kindsAndLinks() {
        for (int kind = 0; kind < KINDS.length; kind++) {
            for (int link = 0; link < LINKS.length; link++) {
                HadItFrom x = Desk.withMen(12);
                due("20: book", Desk.book(x, KINDS[kind] + "11" + LINKS[link] + "3" + LINKS[(link + 1) % 3] + "10 word 6"), 0);
                due("22: kind", x.rowOf(0, 0, 0), kind);
                due("22: men", x.rowOf(0, 0, 1), 3);
                due("22: wording", x.rowOf(0, 0, 2), 6);
                due("22: man 0", x.rowOf(0, 0, 10), 11);
                due("22: man 1", x.rowOf(0, 0, 11), 3);
                due("22: man 2", x.rowOf(0, 0, 12), 10);
                due("22: link 0", x.rowOf(0, 0, 20), link);
                due("22: link 1", x.rowOf(0, 0, 21), (link + 1) % 3);
            }
        }
        dueBook(2, "row 0 told 1", 1);
        dueBook(2, "Whole 0 told 1", 0);
        dueBook(2, "hunger 0 told 1", 4);
        dueBook(2, "hid 0 told 1", 3);
        dueBook(2, "mad 0 told 1", 3);
        dueBook(2, "made made 0 told 1", 5);
        dueBook(2, "0 told 1;whole", 14);
        dueBook(2, "0 told 1;whole ", 15);
        dueBook(2, "0 tolf 1", 5);
        dueBook(2, "0 heart 1", 6);
        dueBook(2, "0 for 1", 3);
        dueBook(2, "0 told\t1", 6);
    }

    /** What a shelf of each sort keeps of a letter and something more. */
    private static void letters() {
        String[] texts = {"age 7", "0 told 1"};
        long[] more = {0, 1L << 8, 1L << 16, 1L << 32, -(1L << 40)};
        int[] leastSort = {4, 1, 2, 4, 4};
        for (String text : texts) {
            for (int sort = 0; sort < 4; sort++) {
                for (int m = 0; m < more.length; m++) {
                    for (int place = 0; place < text.length(); place++) {
                        dueLetter(text, place, sort, more[m], sort < leastSort[m] ? -1 : place);
                    }
                }
            }
        }
    }

    private static void dueLetter(String text, int place, int sort, long more, int fault) {
        HadItFrom x = Desk.withMen(2);
        Desk.write(x, 0, sort, text);
        x.set(0, place, text.charAt(place) + more);
        String call = text + ", letter " + place + " and " + more + ", sort " + sort;
        due("16, 20: " + call, text.startsWith("a") ? x.rules(0) : x.book(0), fault == -1 ? 0 : -6);
        due("17: " + call, x.fault(), fault);
    }

    private static void sizes() {
        String rules = "age 1;".repeat(14) + "unknown 1;";
        String book = "hidden 1 told 0 word 7;".repeat(4);
        due("letters of rules", rules.length(), 94);
        due("letters of a book", book.length(), 92);
        dueRules(rules + "age 12", -1);
        dueRules(rules + "bar 9;", 100);
        dueBook(2, book + "0 told 1", -1);
        dueBook(2, book + "1 heard ", 100);
        HadItFrom x = Desk.withMen(2);
        Desk.write(x, 0, 0, "0 told 1");
        x.row(1, 0, 9);
        x.copy(0, 1, 0, 0, 8);
        due("20: an element 0 is no letter", x.book(1), -6);
        due("17: an element 0 is no letter", x.fault(), 8);
        x.row(1, 0, 7);
        x.copy(0, 1, 0, 0, 7);
        due("20: without the last letter", x.book(1), -6);
        due("17: without the last letter", x.fault(), 7);
        due("20: what the row before had is gone", x.status(2), 0);
    }
}
