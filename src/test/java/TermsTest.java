/** The terms at their ends: years and places, who could hear, late, strength, bar, weight, rows that are like. */
public final class TermsTest {
    private static final Checks checks = new Checks("TermsTest");

    public static void main(String[] args) {
        whereInYears();
        whereByJourneys();
        ageBySide();
        bothLive();
        onePlace();
        awayAtFirst();
        nearNever();
        lateYears();
        lateByWhom();
        failsAtEach();
        strengths();
        lossesOfLinks();
        bars();
        weights();
        likeBySize();
        clashesOfMany();
        knotsAndFirst();
        saysEdges();
        judgeEdges();
        checks.end();
    }

    private static void due(String call, long got, long want) {
        checks.due(call, got, want);
    }

    private static void force(HadItFrom x, String rules) {
        x.force(Desk.rules(x, rules));
    }

    private static void whereInYears() {
        int[][] lives = {{0, 0}, {0, 400}, {400, 400}, {7, 7}, {7, 9}, {0, 1}, {399, 400}};
        for (int[] life : lives) {
            HadItFrom x = new HadItFrom();
            x.man(life[0], life[1], 6, 0, 0);
            x.man(5, 300, 3, 0, 0);
            x.found(1, life[0], life[1]);
            int[] years = {-1, 0, 1, 6, 7, 8, 9, 10, 398, 399, 400, 401, Integer.MIN_VALUE, Integer.MAX_VALUE};
            for (int year : years) {
                boolean lived = year >= life[0] && year <= life[1];
                String call = "15: where in " + year + ", of " + life[0] + " to " + life[1];
                due(call, x.where(0, year), lived ? 6 : -1);
                due(call + ", as found", x.where(1, year), lived ? 3 : -1);
            }
        }
    }

    private static void whereByJourneys() {
        HadItFrom x = new HadItFrom();
        x.man(10, 30, 0, 0, 0);
        x.journey(0, 7, 12, 20);
        due("15: ahead of it", x.where(0, 11), 0);
        due("15: its first year", x.where(0, 12), 7);
        due("15: its last year", x.where(0, 20), 7);
        due("15: after it", x.where(0, 21), 0);
        x.journey(0, 5, 20, 20);
        due("15: the last told, of one year", x.where(0, 20), 5);
        due("15: the first told", x.where(0, 19), 7);
        x.journey(0, 6, 0, 12);
        due("15: the last told, though earlier", x.where(0, 12), 6);
        due("15: the first told", x.where(0, 13), 7);
        due("15: on a journey ahead of his birth", x.where(0, 9), -1);
        x.found(0, 0, 400);
        due("15: on a journey in his first year", x.where(0, 0), 6);
        due("15: at home in his last year", x.where(0, 400), 0);
    }

    /** One is born in year 20, the other one so many years later; the one who hears may be either. */
    private static void ageBySide() {
        int[] ages = {0, 1, 10, 99};
        for (int age : ages) {
            for (int near = 1; near <= 2; near++) {
                for (int later = 0; later <= 30; later += 15) {
                    int first = 20 + later + age;
                    dueWhen(age, near, 20, 400, 20 + later, 400, first);
                    dueWhen(age, near, 20, first, 20 + later, 400, first);
                    dueWhen(age, near, 20, 400, 20 + later, first, first);
                    if (age > 0) {
                        dueWhen(age, near, 20, first - 1, 20 + later, 400, -1);
                        dueWhen(age, near, 20, 400, 20 + later, first - 1, -1);
                    }
                }
            }
        }
    }

    private static void dueWhen(int age, int near, int born, int died, int otherBorn, int otherDied, int want) {
        HadItFrom x = new HadItFrom();
        x.man(born, died, 4, 1, 0);
        x.man(otherBorn, otherDied, 4, 1, 0);
        force(x, "age " + age + ";near " + near);
        String call = "of age " + age + ", near " + near + ": " + born + " to " + died + ", " + otherBorn + " to " + otherDied;
        due("24: when, " + call, x.when(0, 1), want);
        due("24: when, the other way, " + call, x.when(1, 0), want);
        due("23: could, " + call, x.could(0, 1), want == -1 ? 0 : 1);
        due("23: could, the other way, " + call, x.could(1, 0), want == -1 ? 0 : 1);
    }

    private static void bothLive() {
        for (int near = 1; near <= 2; near++) {
            dueWhen(0, near, 0, 50, 50, 90, 50);
            dueWhen(0, near, 0, 50, 51, 90, -1);
            dueWhen(0, near, 0, 0, 0, 0, 0);
            dueWhen(0, near, 400, 400, 0, 400, 400);
            dueWhen(1, near, 400, 400, 0, 400, -1);
            dueWhen(1, near, 399, 400, 0, 400, 400);
            dueWhen(99, near, 301, 400, 0, 400, 400);
            dueWhen(99, near, 302, 400, 0, 400, -1);
        }
    }

    /** They live in two places; only in one year one of them comes to the other one's. */
    private static void onePlace() {
        int[] years = {9, 10, 11, 59, 60, 61};
        for (int year : years) {
            for (int who = 0; who < 2; who++) {
                HadItFrom x = new HadItFrom();
                x.man(0, 60, 0, 1, 0);
                x.man(0, 60, 7, 1, 0);
                x.journey(who, who == 0 ? 7 : 0, year, year);
                boolean met = year >= 10 && year <= 60;
                due("24: they meet in " + year, x.when(0, 1), met ? year : -1);
                due("23: they meet in " + year, x.could(1, 0), met ? 1 : 0);
                x.journey(who, who == 0 ? 7 : 0, 30, 40);
                due("24: or in 30", x.when(1, 0), met ? Math.min(year, 30) : 30);
                x.journey(who, 3, year, year);
                due("24: but that one year he was elsewhere", x.when(1, 0), 30);
            }
        }
    }

    /** Both live in one place; one is away from some year to some other one, about when they come of age. */
    private static void awayAtFirst() {
        int[][] aways = {{10, 10, 11}, {9, 9, 10}, {11, 11, 10}, {0, 10, 11}, {10, 59, 60}, {10, 60, -1}, {9, 59, 60}, {0, 400, -1}};
        for (int[] away : aways) {
            for (int who = 0; who < 2; who++) {
                HadItFrom x = new HadItFrom();
                x.man(0, 60, 3, 1, 0);
                x.man(0, 60, 3, 1, 0);
                x.journey(who, 4, away[0], away[1]);
                due("24: away from " + away[0] + " to " + away[1], x.when(0, 1), away[2]);
                due("24: away from " + away[0] + " to " + away[1], x.when(1, 0), away[2]);
                x.journey(1 - who, 5, away[0], away[1]);
                due("24: both away", x.when(0, 1), away[2]);
            }
        }
        HadItFrom x = new HadItFrom();
        x.man(0, 60, 3, 1, 0);
        x.man(0, 60, 3, 1, 0);
        x.journey(0, 4, 10, 10);
        x.journey(0, 5, 11, 11);
        x.journey(0, 6, 12, 12);
        due("24: away year by year", x.when(0, 1), 13);
        x.journey(1, 4, 13, 13);
        x.journey(1, 5, 14, 14);
        x.journey(1, 6, 15, 15);
        due("24: both away, one after the other", x.when(0, 1), 16);
    }

    private static void nearNever() {
        HadItFrom x = new HadItFrom();
        x.man(0, 5, 0, 1, 0);
        x.man(300, 301, 1, 1, 0);
        Desk.book(x, "0 told 1");
        force(x, "near 0;age 99");
        due("23: near 0, never in one time", x.could(0, 1), 1);
        due("23: near 0, never in one time", x.could(1, 0), 1);
        due("24: near 0", x.when(0, 1), 0);
        due("25: near 0", x.fails(0, 0), -1);
        force(x, "near 1;age 0");
        due("23: near 1", x.could(0, 1), 0);
        due("24: near 1", x.when(0, 1), -1);
        due("25: near 1", x.fails(0, 0), 0);
        x.found(1, 5, 301);
        due("24: near 1, elsewhere", x.when(0, 1), 5);
        force(x, "near 2;age 0");
        due("24: near 2, elsewhere", x.when(0, 1), -1);
        x.force(-1);
        due("24: those at first", x.when(0, 1), -1);
    }

    private static void lateYears() {
        int[] lates = {0, 59, 60, 61, 400};
        for (int late : lates) {
            HadItFrom x = new HadItFrom();
            x.man(50, 120, 0, 1, 0);
            x.man(0, 100, 0, 3, late);
            Desk.book(x, "0 told 1");
            Desk.book(x, "1 told 0");
            due("28: heard in 60, late from " + late, x.sureness(0, 0, 1), late <= 60 ? 2 : 9);
            due("28: as man 0, late from " + late, x.sureness(1, 0, 0), 2);
            due("28: the other one", x.sureness(0, 0, 0), 9);
            due("26: heard in 60, late from " + late, x.strength(0, 0), late <= 60 ? 2 : 9);
            force(x, "near 0");
            due("28: heard in 0, late from " + late, x.sureness(0, 0, 1), late == 0 ? 2 : 9);
            force(x, "age 99;near 1");
            due("28: never heard, late from " + late, x.sureness(0, 0, 1), 2);
        }
    }

    /** It is the man before him in the row who heard him, not the one of whom he has it. */
    private static void lateByWhom() {
        HadItFrom x = new HadItFrom();
        x.man(50, 120, 0, 1, 0);
        x.man(0, 100, 0, 3, 40);
        x.man(0, 100, 0, 1, 0);
        Desk.book(x, "0 told 1 told 2;2 told 1 told 0;2 told 0 told 1");
        due("28: heard in 60", x.sureness(0, 0, 1), 2);
        due("28: heard in 10", x.sureness(0, 1, 1), 9);
        due("28: heard in 60", x.sureness(0, 2, 2), 2);
        x.mark(1, 3, 10);
        due("28: heard in 10, late from 10", x.sureness(0, 1, 1), 2);
        x.mark(1, 3, 61);
        due("28: heard in 60, late from 61", x.sureness(0, 2, 2), 9);
        x.mark(1, 2, 0);
        due("28: forgets", x.sureness(0, 1, 1), 5);
    }

    /** Of eight men one can't be heard: the link to him fails, or that from him where he is man 0. */
    private static void failsAtEach() {
        String row = "0 told 1 told 2 told 3 told 4 told 5 told 6 told 7";
        for (int man = 0; man < 8; man++) {
            HadItFrom x = Desk.withMen(8);
            x.found(man, 300, 400);
            Desk.book(x, row);
            due("25: without man " + man, x.fails(0, 0), Math.max(0, man - 1));
            due("26: without man " + man, x.strength(0, 0), 0);
            due("27: without man " + man, x.stands(0, 0), 0);
            due("35: without man " + man, x.weight(0), 0);
            x.found(man, 0, 100);
            due("25: with man " + man, x.fails(0, 0), -1);
            x.mark(man, 0, 0);
            due("28: man " + man + " is unknown", x.sureness(0, 0, man), 3);
            due("28: the one after him", x.sureness(0, 0, (man + 1) % 8), 9);
            due("26: man " + man + " is unknown", x.strength(0, 0), 3);
            due("30: man " + man + " is unknown", x.apart(0), 1);
            due("32: man " + man + " is unknown", x.knots(0), 127);
            due("31: man " + man + " is unknown", x.cut(0), 1);
        }
    }

    private static void strengths() {
        for (int sure = 0; sure <= 9; sure++) {
            for (int less = 0; less <= 9; less++) {
                HadItFrom x = Desk.withMen(3);
                Desk.book(x, "0 told 1;gap 0 told 1;hidden 0 told 1;raised 0 told 1;made 0 told 1;whole 0 told 1;hung 0 told 1");
                force(x, "sure " + sure + ";gap " + less + ";raise " + less);
                int left = Math.max(0, sure - less);
                int[] want = {sure, left, left, left, left / 2, sure, sure};
                for (int row = 0; row < 7; row++) {
                    due("26: sure " + sure + " less " + less + ", kind of row " + row, x.strength(0, row), want[row]);
                }
            }
        }
    }

    private static void lossesOfLinks() {
        for (int less = 0; less <= 9; less++) {
            int from = Math.min(9, less + 1);
            HadItFrom x = Desk.withMen(5);
            x.mark(3, 5, 0);
            x.mark(4, 5, 0);
            Desk.book(x, "0 heard 1;0 heard 1 heard 2;3 from 0;0 from 3;3 from 4 from 0;gap 0 heard 1;made 3 from 0 heard 1");
            force(x, "hides 9;heard " + less + ";from " + from + ";gap 4;raise 1");
            int[] want = {9 - less, 9 - 2 * less, 9 - from, 9, 9 - 2 * from, 5 - less, (8 - from - less) / 2};
            for (int row = 0; row < 7; row++) {
                due("26: heard " + less + ", from " + from + ", row " + row, x.strength(0, row), Math.max(0, want[row]));
            }
        }
    }

    private static void bars() {
        for (int sure = 0; sure <= 9; sure++) {
            for (int bar = Math.max(0, sure - 1); bar <= sure + 1; bar++) {
                HadItFrom x = Desk.withMen(2);
                x.man(300, 400, 0, 1, 0);
                Desk.book(x, "0 told 1;0 told 2");
                force(x, "sure " + sure + ";bar " + bar);
                due("27: strength " + sure + ", bar " + bar, x.stands(0, 0), sure >= bar ? 1 : 0);
                due("27: it fails, bar " + bar, x.stands(0, 1), 0);
                due("36: wordings", x.wordings(0), sure >= bar ? 1 : 0);
                due("30: apart", x.apart(0), sure >= bar ? 1 : 0);
                due("35: weight", x.weight(0), sure >= bar ? sure : 0);
            }
        }
        HadItFrom x = Desk.withMen(2);
        Desk.book(x, "0 told 1");
        force(x, "bar 99");
        due("27: bar 99", x.stands(0, 0), 0);
    }

    private static void weights() {
        int[] mores = {0, 1, 89, 90, 91, 99};
        for (int more : mores) {
            HadItFrom x = Desk.withMen(6);
            Desk.book(x, "hung 1 told 0");
            Desk.book(x, "1 told 0;1 told 2 told 0");
            Desk.book(x, "1 told 0;2 told 0");
            Desk.book(x, "1 told 0;2 told 0;3 told 0;4 told 0;5 told 0");
            force(x, "more " + more);
            due("35: apart 0, more " + more, x.weight(0), 9);
            due("35: apart 1, more " + more, x.weight(1), 9);
            due("35: apart 2, more " + more, x.weight(2), Math.min(99, 9 + more));
            due("35: apart 5, more " + more, x.weight(3), Math.min(99, 9 + 4 * more));
            force(x, "more " + more + ";bar 10");
            due("35: none stands, more " + more, x.weight(3), 0);
        }
    }

    private static void likeBySize() {
        HadItFrom x = Desk.withMen(10);
        x.mark(9, 0, 0);
        Desk.book(x, "1 told 2 told 3 told 4 told 5 told 6 told 7");
        Desk.book(x, "1 told 2 told 3 told 4 told 5 told 6 told 7 told 8");
        Desk.book(x, "8 told 1 told 2 told 3 told 4 told 5 told 6 told 7");
        Desk.book(x, "1 told 2 told 3 told 4 told 5 told 6 told 7 told 9");
        Desk.book(x, "1 told 2 told 3 told 4 told 5;1 told 2");
        Desk.book(x, "2 told 1;9 told 2");
        due("40: none with one less", x.like(0, 0), -1);
        due("40: with a last one", x.like(1, 0), 1);
        due("40: with a first one", x.like(2, 0), 1);
        due("40: with an unsure last one", x.like(3, 0), 1);
        due("40: two less are too few", x.like(4, 0), -1);
        due("40: sure in an unsure one's stead", x.like(4, 1), 512);
        due("40: two of them in each other's stead", x.like(5, 0), -1);
        x.mark(1, 3, 400);
        due("40: he is sure no more", x.like(4, 1), -1);
        x.mark(9, 1, 0);
        due("40: now that one is sure", x.like(5, 1), 412);
    }

    private static void clashesOfMany() {
        for (int a = 0; a < 8; a++) {
            HadItFrom x = fresh();
            for (int b = 0; b < 8; b++) {
                if (a != b) {
                    due("38: " + a + " and " + b + " didn't clash", x.clash(a, b, false), 0);
                    due("38: " + a + " and " + b + " clash", x.clash(a, b, true), 1);
                    due("38: they did", x.clash(b, a, true), 0);
                    due("48: one of them", x.status(4), 1);
                    due("39: the lower one", x.doubt(0), 1 << Math.min(a, b));
                    due("38: no more", x.clash(b, a, false), 1);
                }
            }
        }
    }

    private static HadItFrom fresh() {
        HadItFrom x = Desk.withMen(2);
        Desk.write(x, 0, 0, "0 told 1");
        for (int n = 0; n < 8; n++) {
            x.book(0);
        }
        return x;
    }

    /** First is the last man of row 0, whatever row 0 is, and is no knot himself. */
    private static void knotsAndFirst() {
        HadItFrom x = Desk.withMen(24);
        Desk.book(x, "hung 5 told 23;6 told 23;7 told 6 told 23");
        Desk.book(x, "23 told 0");
        Desk.book(x, "22 told 23 told 0;21 told 23 told 0");
        due("32: knots", x.knots(0), 1 << 6);
        due("30: apart", x.apart(0), 1);
        due("31: cut", x.cut(0), 1 << 6);
        due("32: the last man", x.knots(1), 1 << 23);
        due("31: the last man", x.cut(1), 1 << 23);
        due("32: the last man", x.knots(2), 1 << 23);
        due("33: the last man", x.alone(23), 6);
        due("33: first of two", x.alone(0), 0);
        x.mark(6, 4, 0);
        due("32: without a way", x.knots(0), 0);
        due("31: without a way", x.cut(0), 0);
        due("30: without a way", x.apart(0), 0);
        due("35: without a way", x.weight(0), 9);
        due("33: without a way", x.alone(6), 0);
    }

    private static void saysEdges() {
        HadItFrom x = Desk.withMen(24);
        Desk.book(x, "gap 23 told 0 told 1 told 2 told 3 told 4 told 5 heard 6");
        Desk.book(x, "hidden 23 from 0;whole 0 told 23 word 7;hung 0 told 23;made 23 told 0;raised 22 told 0");
        x.show(0, 0, 0);
        due("8: the last link of eight men", x.says(0, 2), 6);
        due("8: eight men", x.says(0, 0), 8);
        int[][] due = {{0, 0, 2}, {0, 3, -1}, {0, 2, -1}, {1, 1, 7}, {2, 4, 23}, {3, 5, 23}, {3, 6, 23}, {4, 5, 22}, {4, 6, -2}};
        for (int[] d : due) {
            x.show(7, 1, d[0]);
            due("8: row " + d[0] + " as kind " + d[1], x.says(7, d[1]), d[2]);
        }
    }

    private static void judgeEdges() {
        HadItFrom x = Desk.withMen(2);
        Desk.book(x, "0 told 1;0 told 1;0 told 1;0 told 1;0 told 1;0 told 1;0 told 1;0 told 1");
        for (int wrong = 0; wrong <= 8; wrong++) {
            Desk.list(x, 0, 1, 9, 9, 9, 9, 9, 9, 9, 9, 9);
            x.set(0, wrong, 8);
            due("29: the wrong one is " + wrong, x.judge(0, 0), wrong < 8 ? wrong : -1);
        }
        Desk.list(x, 0, 3, 9, 9, 9 + (1L << 32), 9 - (1L << 33), 9, 9, 9, 9);
        due("29: longs as ints", x.judge(0, 0), -1);
        x.set(0, 3, 9 + (1L << 31));
        due("29: longs as ints, wrong", x.judge(0, 0), 3);
        Desk.list(x, 0, 0, 9, 9, 9, 9, 9, 9, 9);
        due("29: the last one is missing", x.judge(0, 0), 7);
        x.mark(0, 4, 0);
        x.row(0, 0, 7);
        due("29: the last one is missing, and 0", x.judge(0, 0), -1);
        x.set(0, 0, -1);
        due("29: below 0", x.judge(0, 0), 0);
    }
}
