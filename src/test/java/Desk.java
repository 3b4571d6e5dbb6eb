/** Shelves written on as texts and lists, so that tests can be read; the last shelf is the desk's own. */
final class Desk {
    static final int SHELF = 7;

    private Desk() {
    }

    static HadItFrom withMen(int count) {
        HadItFrom x = new HadItFrom();
        for (int i = 0; i < count; i++) {
            x.man(0, 100, 0, 1, 0);
        }
        return x;
    }

    static void write(HadItFrom x, int shelf, int sort, String letters) {
        x.row(shelf, sort, letters.length());
        for (int i = 0; i < letters.length(); i++) {
            x.set(shelf, i, letters.charAt(i));
        }
    }

    static void list(HadItFrom x, int shelf, int sort, long... numbers) {
        x.row(shelf, sort, numbers.length);
        for (int i = 0; i < numbers.length; i++) {
            x.set(shelf, i, numbers[i]);
        }
    }

    static int book(HadItFrom x, String letters) {
        write(x, SHELF, 0, letters);
        return x.book(SHELF);
    }

    static int rules(HadItFrom x, String letters) {
        write(x, SHELF, 0, letters);
        return x.rules(SHELF);
    }
}
