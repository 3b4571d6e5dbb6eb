/** Long runs of calls, made by a fixed row of numbers, on the class and on the plain oracle side by side. */
public final class OracleTest {
    private static final int RUNS = 4000;
    private static final int CALLS = 512;
    private static final String[] KINDS = {"", "", "", "whole ", "gap ", "hidden ", "hung ", "raised ", "made "};
    private static final String[] LINKS = {" told ", " told ", " from ", " heard "};
    private static final String[] WORDS = {
        "age", "near", "unknown", "sure", "forgets", "late", "lies", "hides", "from", "heard", "gap", "raise", "bar", "more"
    };
    private static final String SIGNS = "0123456789 ;;  abdefghilmnoprstuwxAZ-";

    private static final Checks checks = new Checks("OracleTest");
    private static long seed = 88172645463325252L;

    private final StringBuilder told = new StringBuilder();
    private final HadItFrom x = new HadItFrom();
    private final Oracle o = new Oracle();
    private final int mostMen;
    private final int mostYear;
    private final int mostPlace;
    private int calls = 0;
    private boolean wrong = false;

    private OracleTest() {
        mostMen = 3 + below(7);
        mostYear = below(4) == 0 ? 401 : 40;
        mostPlace = 1 + below(below(2) == 0 ? 1 : 3);
    }

    public static void main(String[] args) {
        int wrongRuns = 0;
        for (int run = 0; run < RUNS && wrongRuns < 5; run++) {
            wrongRuns += new OracleTest().run() ? 0 : 1;
        }
        checks.end();
    }

    /** Xorshift: the same numbers each time. */
    private static int below(int n) {
        seed ^= seed << 13;
        seed ^= seed >>> 7;
        seed ^= seed << 17;
        return (int) ((seed >>> 1) % n);
    }

    private boolean run() {
        for (int m = 0; m < mostMen; m++) {
            man();
        }
        for (int text = 2 + below(4); text > 0; text--) {
            write(below(4) == 0 ? rulesText() : bookText());
        }
        while (calls < CALLS && !wrong) {
            call();
        }
        return !wrong;
    }

    private void due(String call, long got, long want) {
        calls++;
        if (wrong) {
            return;
        }
        told.append(call).append(" -> ").append(got).append('\n');
        checks.due(call, got, want);
        if (got != want) {
            wrong = true;
            System.out.println(told);
        }
    }

    /** Whether an object may be asked so many times more. */
    private boolean hasRoom(int more) {
        return calls + more <= CALLS;
    }

    private void call() {
        int kind = below(100);
        if (kind == 0) {
            write(bookText());
        } else if (kind == 1) {
            write(rulesText());
        } else if (kind < 8) {
            shelfCall();
        } else if (kind < 13) {
            manCall();
        } else if (kind < 18) {
            imageCall();
        } else if (kind < 40) {
            rowQuery();
        } else {
            sayingQuery();
        }
    }

    private int near(int n) {
        return below(24) == 0 ? below(n + 4) - 2 : below(Math.max(1, n));
    }

    private int aShelf() {
        return near(8);
    }

    private int aSaying() {
        return near(o.status(2));
    }

    private int aMan() {
        return near(o.status(0));
    }

    private int someRules() {
        return near(o.status(1) + 1) - 1;
    }

    private int aYear() {
        return below(40) == 0 ? below(500) - 50 : below(mostYear);
    }

    private void man() {
        int born = aYear();
        int died = below(20) == 0 ? aYear() : Math.min(400, born + 20 + below(mostYear));
        int place = near(mostPlace);
        int mark = below(3) == 0 ? near(6) : below(6) == 0 ? 0 : 1;
        int late = aYear();
        due("man " + born + " " + died + " " + place + " " + mark + " " + late,
            x.man(born, died, place, mark, late), o.man(born, died, place, mark, late));
    }

    private void manCall() {
        int m = aMan();
        int a = aYear();
        int b = below(6) == 0 ? aYear() : Math.min(400, a + below(30));
        int n = near(mostPlace);
        int v = near(6);
        switch (below(8)) {
            case 0:
                if (o.status(0) < mostMen || below(5) == 0) {
                    man();
                }
                break;
            case 1:
                menCall();
                break;
            case 2:
            case 3:
                due("journey " + m + " " + n + " " + a + " " + b, x.journey(m, n, a, b), o.journey(m, n, a, b));
                break;
            case 4:
                due("found " + m + " " + a + " " + b, x.found(m, a, b), o.found(m, a, b));
                break;
            case 5:
                due("mark " + m + " " + v + " " + a, x.mark(m, v, a), o.mark(m, v, a));
                break;
            case 6:
                due("manOf " + m + " " + v, x.manOf(m, v), o.manOf(m, v));
                break;
            default:
                due("where " + m + " " + a, x.where(m, a), o.where(m, a));
                break;
        }
    }

    private void menCall() {
        int s = aShelf();
        int size = below(16);
        if (!hasRoom(size + 2)) {
            return;
        }
        due("row " + s + " 1 " + size, x.row(s, 1, size), o.row(s, 1, size));
        for (int i = 0; i < size; i++) {
            int v = i % 5 == 1 ? 20 + below(30) : below(i % 5 == 0 ? 21 : 7);
            due("set " + s + " " + i + " " + v, x.set(s, i, v), o.set(s, i, v));
        }
        int i = near(3);
        int n = below(4) * 5 + (below(10) == 0 ? 1 : 0);
        due("men " + s + " " + i + " " + n, x.men(s, i, n), o.men(s, i, n));
    }

    private void shelfCall() {
        int s = aShelf();
        int q = aShelf();
        int i = near(12);
        int j = near(12);
        int n = near(8);
        long v = below(2) == 0 ? below(200) - 50 : seed;
        switch (below(8)) {
            case 0:
                due("row " + s + " " + n + " " + i, x.row(s, n, i), o.row(s, n, i));
                break;
            case 1:
                due("set " + s + " " + i + " " + v, x.set(s, i, v), o.set(s, i, v));
                break;
            case 2:
                due("copy " + s + " " + q + " " + i + " " + j + " " + n, x.copy(s, q, i, j, n), o.copy(s, q, i, j, n));
                break;
            case 3:
                due("element " + s + " " + i, x.element(s, i), o.element(s, i));
                break;
            case 4:
            case 5:
                i = aSaying();
                due("show " + s + " " + i + " " + n, x.show(s, i, n), o.show(s, i, n));
                break;
            case 6:
                due("holds " + s, x.holds(s), o.holds(s));
                break;
            default:
                due("says " + s + " " + n, x.says(s, n), o.says(s, n));
                break;
        }
    }

    private String bookText() {
        int men = Math.max(2, o.status(0));
        StringBuilder t = new StringBuilder();
        int rows = 1 + below(below(6) == 0 ? 9 : 5);
        int first = below(men);
        for (int r = 0; r < rows && t.length() < 75; r++) {
            t.append(r == 0 ? "" : ";").append(KINDS[below(KINDS.length)]);
            int used = below(60) == 0 ? 0 : 1 << first;
            int count = Math.min(men - 1, 1 + below(below(20) == 0 ? 9 : 3));
            for (int i = 0; i < count; i++) {
                int m = below(men);
                for (int turn = 0; turn < 40 && (used >> m & 1) != 0; turn++) {
                    m = below(men);
                }
                used |= 1 << m;
                t.append(m).append(LINKS[below(LINKS.length)]);
            }
            t.append(first < 10 && below(9) == 0 ? "0" + first : first);
            t.append(below(3) == 0 ? " word " + below(3) : "");
        }
        return spoilt(t);
    }

    private String rulesText() {
        StringBuilder t = new StringBuilder();
        int parts = 1 + below(4);
        for (int p = 0; p < parts; p++) {
            int word = below(WORDS.length);
            int most = word == 0 ? 40 : word == 1 ? 3 : word == 12 ? 6 : 10;
            t.append(p == 0 ? "" : ";").append(WORDS[word]).append(' ').append(below(40) == 0 ? below(100) : below(most));
        }
        return spoilt(t);
    }

    private static String spoilt(StringBuilder t) {
        for (int turn = 0; turn < 3 && below(6) == 0; turn++) {
            int at = below(t.length() + 1);
            char sign = SIGNS.charAt(below(SIGNS.length()));
            int how = below(4);
            if (how == 0) {
                t.insert(at, sign);
            } else if (how == 1 && at < t.length()) {
                t.deleteCharAt(at);
            } else if (how == 2 && at < t.length()) {
                t.setCharAt(at, sign);
            } else if (at > 0) {
                t.setLength(at);
            }
        }
        return t.toString();
    }

    private void write(String text) {
        String letters = text.length() > 100 ? text.substring(0, 100) : text;
        if (!hasRoom(letters.length() + 3)) {
            return;
        }
        int s = below(8);
        int sort = below(4);
        due("row " + s + " " + sort + " " + letters.length(), x.row(s, sort, letters.length()), o.row(s, sort, letters.length()));
        for (int i = 0; i < letters.length(); i++) {
            long v = letters.charAt(i) + (sort == 3 ? (long) below(3) << 32 : sort == 0 ? 256L * below(3) : 0);
            due("set " + s + " " + i + " " + v, x.set(s, i, v), o.set(s, i, v));
        }
        s = below(20) == 0 ? aShelf() : s;
        boolean asBook = below(20) == 0 || letters.contains("t") && !letters.contains("bar") && !letters.contains("gets");
        if (asBook) {
            due("book " + s + " " + letters, x.book(s), o.book(s));
        } else {
            due("rules " + s + " " + letters, x.rules(s), o.rules(s));
        }
        due("fault", x.fault(), o.fault());
    }

    private void imageCall() {
        int r = someRules();
        switch (below(8)) {
            case 0:
                due("image", x.image(), o.image());
                break;
            case 1:
                due("restore", x.restore(), o.restore());
                break;
            case 2:
                int i = near(14);
                due("rule " + r + " " + i, x.rule(r, i), o.rule(r, i));
                break;
            default:
                due("force " + r, x.force(r), o.force(r));
                break;
        }
    }

    private void rowQuery() {
        int s = aSaying();
        int r = near(s >= 0 && s < o.status(2) ? o.rows(s) : 1);
        int n = near(8);
        switch (below(12)) {
            case 0:
                int what = below(3) == 0 ? near(3) : 10 * (1 + below(2)) + n;
                due("rowOf " + s + " " + r + " " + what, x.rowOf(s, r, what), o.rowOf(s, r, what));
                break;
            case 1:
            case 2:
                due("fails " + s + " " + r, x.fails(s, r), o.fails(s, r));
                break;
            case 3:
            case 4:
                due("strength " + s + " " + r, x.strength(s, r), o.strength(s, r));
                break;
            case 5:
                due("stands " + s + " " + r, x.stands(s, r), o.stands(s, r));
                break;
            case 6:
                due("sureness " + s + " " + r + " " + n, x.sureness(s, r, n), o.sureness(s, r, n));
                break;
            case 7:
            case 8:
                due("like " + s + " " + r, x.like(s, r), o.like(s, r));
                break;
            case 9:
                due("rows " + s, x.rows(s), o.rows(s));
                break;
            default:
                int act = near(3);
                int arg = below(2) == 0 ? below(50) - 25 : (int) seed;
                due("act " + s + " " + r + " " + act + " " + arg, x.act(s, r, act, arg), o.act(s, r, act, arg));
                int i = near(8);
                if (!hasRoom(1)) {
                    break;
                }
                due("trace " + i, x.trace(i), o.trace(i));
                break;
        }
    }

    private void sayingQuery() {
        int s = aSaying();
        int m = aMan();
        int n = aMan();
        int a = someRules();
        int b = someRules();
        switch (below(22)) {
            case 0:
                due("could " + m + " " + n, x.could(m, n), o.could(m, n));
                break;
            case 1:
            case 2:
                due("when " + m + " " + n, x.when(m, n), o.when(m, n));
                break;
            case 3:
                int shelf = aShelf();
                due("judge " + s + " " + shelf, x.judge(s, shelf), o.judge(s, shelf));
                break;
            case 4:
            case 5:
                due("apart " + s, x.apart(s), o.apart(s));
                break;
            case 6:
            case 7:
                due("cut " + s, x.cut(s), o.cut(s));
                break;
            case 8:
                due("knots " + s, x.knots(s), o.knots(s));
                break;
            case 9:
                due("alone " + m, x.alone(m), o.alone(m));
                break;
            case 10:
                due("agree " + m, x.agree(m), o.agree(m));
                break;
            case 11:
                due("weight " + s, x.weight(s), o.weight(s));
                break;
            case 12:
                due("wordings " + s, x.wordings(s), o.wordings(s));
                break;
            case 13:
            case 14:
                due("mouths " + s, x.mouths(s), o.mouths(s));
                break;
            case 15:
                int other = aSaying();
                boolean is = below(3) != 0;
                due("clash " + s + " " + other + " " + is, x.clash(s, other, is), o.clash(s, other, is));
                break;
            case 16:
            case 17:
                int what = near(3);
                due("doubt " + what, x.doubt(what), o.doubt(what));
                break;
            case 18:
                due("between " + m + " " + n, x.between(m, n), o.between(m, n));
                break;
            case 19:
                due("silent " + m, x.silent(m), o.silent(m));
                break;
            case 20:
                due("beside " + a + " " + b, x.beside(a, b), o.beside(a, b));
                break;
            default:
                int state = below(19);
                due("status " + state, x.status(state), o.status(state));
                break;
        }
    }
}
