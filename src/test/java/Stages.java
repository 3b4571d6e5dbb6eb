/** Objects as tests want them ahead of a call; none of them has had more than 200 calls. */
final class Stages {
    /** What Stages.some() has on its shelves. */
    static final int NUMBERS = 0;
    static final int MEN = 1;
    static final int NOTHING = 2;
    static final int OTHER_SORT = 3;
    static final int OTHER_MEN = 4;
    static final int FAULTY = 6;
    static final int BOOK = 7;

    private Stages() {
    }

    /** Some of everything, and an image that is not as things stand. */
    static HadItFrom some() {
        HadItFrom x = new HadItFrom();
        x.man(10, 90, 2, 1, 0);
        x.journey(0, 1, 20, 30);
        x.journey(0, 4, 25, 26);
        x.journey(0, 1, 40, 40);
        x.man(5, 80, 2, 3, 45);
        x.man(15, 95, 2, 5, 0);
        x.man(0, 100, 2, 1, 0);
        Desk.rules(x, "bar 2;near 1");
        Desk.rules(x, "more 5");
        x.force(0);
        Desk.book(x, "0 told 1;hidden 2 from 1 word 3");
        Desk.book(x, "3 told 1");
        x.clash(0, 1, true);
        x.image();
        x.mark(3, 2, 0);
        x.found(3, 1, 99);
        Desk.list(x, NUMBERS, 1, 1, 9, 3, 2, 0, 7, 8, 1, 1, 0);
        x.show(MEN, 0, 1);
        Desk.list(x, OTHER_SORT, 0, 6, 5, 4);
        x.show(OTHER_MEN, 1, 0);
        Desk.write(x, FAULTY, 0, "age x");
        x.rules(FAULTY);
        x.act(0, 1, 2, 4);
        return x;
    }

    /** As some(), but each shelf holds the letters of a book (or numbers of which none can be a man's). */
    static HadItFrom withLetters(String letters) {
        HadItFrom x = some();
        Desk.write(x, 0, 0, letters);
        for (int s = 1; s < 8; s++) {
            x.row(s, 0, letters.length());
            x.copy(0, s, 0, 0, letters.length());
        }
        return x;
    }

    /** As some(), but each shelf holds ten numbers, of which men can be made. */
    static HadItFrom withNumbers() {
        HadItFrom x = some();
        for (int s = 0; s < 8; s++) {
            if (s != NUMBERS) {
                x.row(s, 1, 10);
                x.copy(NUMBERS, s, 0, 0, 10);
            }
        }
        return x;
    }

    /** As some(), but each shelf holds a row of men that is hidden. */
    static HadItFrom withRowsOfMen() {
        HadItFrom x = some();
        for (int s = 0; s < 8; s++) {
            x.show(s, 0, 1);
        }
        return x;
    }

    /** As many men, rules, sayings, rows and journeys of the last man as may be. */
    static HadItFrom full() {
        HadItFrom x = Desk.withMen(24);
        x.journey(23, 0, 0, 0);
        x.journey(23, 1, 400, 400);
        x.journey(23, 2, 0, 400);
        Desk.write(x, FAULTY, 0, "gap 9");
        for (int n = 0; n < 6; n++) {
            x.rules(FAULTY);
        }
        Desk.write(x, BOOK, 0, "0 told 1;1 told 2;2 told 3;3 told 4;4 told 5;5 told 6;6 told 7;7 told 8");
        for (int n = 0; n < 8; n++) {
            x.book(BOOK);
        }
        Desk.list(x, NUMBERS, 2, 0, 9, 0, 0, 0);
        x.show(MEN, 7, 7);
        return x;
    }
}
