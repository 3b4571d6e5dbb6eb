import java.util.ArrayList;
import java.util.Arrays;
import java.util.List;
import java.util.regex.Matcher;
import java.util.regex.Pattern;

/** The document once more, as slow and plain as may be: what HadItFrom is compared with. */
final class Oracle {
    private static final String[] WORDS = {
        "age", "near", "unknown", "sure", "forgets", "late", "lies", "hides", "from", "heard", "gap", "raise", "bar", "more"
    };
    private static final int[] MOST = {99, 2, 9, 9, 9, 9, 9, 9, 9, 9, 9, 9, 99, 99};
    private static final int[] FIRST = {10, 2, 3, 9, 5, 2, 0, 6, 1, 2, 3, 2, 3, 1};
    private static final List<String> KINDS = List.of("", "whole", "gap", "hidden", "hung", "raised", "made");
    private static final int[] ABOVE = {-1, 0, 0, 2, 0, 0, 5};
    private static final List<String> LINKS = List.of("told", "from", "heard");
    private static final String PART = "(?:" + String.join("|", WORDS) + ") [0-9]{1,2}";
    private static final Pattern RULES = Pattern.compile(PART + "(?:;" + PART + ")*");
    private static final String MEN_AND_LINKS = "[0-9]{1,2}(?: (?:told|from|heard) [0-9]{1,2}){1,7}";
    private static final String ROW = "(?:(?:whole|gap|hidden|hung|raised|made) )?" + MEN_AND_LINKS + "(?: word [0-7])?";
    private static final Pattern BOOK = Pattern.compile(ROW + "(?:;" + ROW + "){0,7}");

    private static final class Man {
        int[] parts = new int[5];
        List<int[]> journeys = new ArrayList<>();
    }

    private static final class Row {
        int saying;
        int number;
        int kind;
        int wording;
        List<Integer> men = new ArrayList<>();
        List<Integer> links = new ArrayList<>();
    }

    private static final class State {
        List<Man> men = new ArrayList<>();
        List<int[]> rules = new ArrayList<>();
        List<List<Row>> sayings = new ArrayList<>();
        boolean[][] clash = new boolean[8][8];
        int force = -1;

        State copy() {
            State s = new State();
            for (Man m : men) {
                Man n = new Man();
                n.parts = m.parts.clone();
                for (int[] j : m.journeys) {
                    n.journeys.add(j.clone());
                }
                s.men.add(n);
            }
            for (int[] r : rules) {
                s.rules.add(r.clone());
            }
            s.sayings.addAll(sayings);
            for (int i = 0; i < 8; i++) {
                s.clash[i] = clash[i].clone();
            }
            s.force = force;
            return s;
        }
    }

    private final Object[] shelves = new Object[8];
    private final int[] sorts = new int[8];
    private State now = new State();
    private State kept = null;
    private int faultPlace = -1;
    private final List<Integer> ran = new ArrayList<>();
    private final int[] refused = new int[8];

    private int no(int kind) {
        refused[-kind]++;
        return kind;
    }

    private int noTen(int kind) {
        return no(kind) - 10;
    }

    private static boolean in(int n, int size) {
        return n >= 0 && n < size;
    }

    private boolean shelf(int s) {
        return in(s, 8);
    }

    private int numbersWanted(int s) {
        return !shelf(s) ? -1 : shelves[s] instanceof Row ? -2 : shelves[s] == null ? -3 : 0;
    }

    private long[] numbers(int s) {
        return (long[]) shelves[s];
    }

    int row(int s, int sort, int n) {
        if (!shelf(s)) {
            return no(-1);
        }
        if (n < 0) {
            return no(-4);
        }
        if (!in(sort, 4)) {
            return no(-6);
        }
        if (n > 100) {
            return no(-7);
        }
        shelves[s] = new long[n];
        sorts[s] = sort;
        return 1;
    }

    int set(int s, int i, long v) {
        if (numbersWanted(s) != 0) {
            return no(numbersWanted(s));
        }
        if (!in(i, numbers(s).length)) {
            return no(-5);
        }
        int away = sorts[s] == 3 ? 0 : 64 - (8 << sorts[s]);
        numbers(s)[i] = v << away >> away;
        return 1;
    }

    int copy(int p, int q, int i, int j, int n) {
        if (!shelf(p) || !shelf(q)) {
            return no(-1);
        }
        if (shelves[p] instanceof Row || shelves[q] instanceof Row) {
            return no(-2);
        }
        if (shelves[p] != null && shelves[q] != null && sorts[p] != sorts[q]) {
            return no(-2);
        }
        if (shelves[p] == null || shelves[q] == null) {
            return no(-3);
        }
        if (n < 0) {
            return no(-4);
        }
        if (i < 0 || j < 0 || (long) i + n > numbers(p).length || (long) j + n > numbers(q).length) {
            return no(-5);
        }
        long[] ahead = Arrays.copyOfRange(numbers(p), i, i + n);
        for (int k = 0; k < n; k++) {
            numbers(q)[j + k] = ahead[k];
        }
        return 1;
    }

    long element(int s, int i) {
        return numbersWanted(s) == 0 && in(i, numbers(s).length) ? numbers(s)[i] : 0;
    }

    int show(int s, int saying, int row) {
        if (!shelf(s)) {
            return no(-1);
        }
        if (saying == -1) {
            shelves[s] = null;
            return 0;
        }
        if (find(saying, row) == null) {
            return no(-1);
        }
        shelves[s] = find(saying, row);
        return 1;
    }

    int holds(int s) {
        if (!shelf(s) || shelves[s] == null) {
            return -1;
        }
        return shelves[s] instanceof Row ? 10 * ((Row) shelves[s]).saying + ((Row) shelves[s]).number : 100 + sorts[s];
    }

    int says(int s, int kind) {
        if (!shelf(s) || !in(kind, 7)) {
            return no(-1);
        }
        if (shelves[s] instanceof long[]) {
            return no(-2);
        }
        if (shelves[s] == null) {
            return no(-3);
        }
        Row r = (Row) shelves[s];
        if (!under(r.kind, kind)) {
            return no(-2);
        }
        if (kind == 0) {
            return r.men.size();
        }
        if (kind == 1) {
            return r.wording;
        }
        if (kind == 2 || kind == 3) {
            return r.links.indexOf(2);
        }
        return kind == 4 ? r.men.get(r.men.size() - 1) : r.men.get(0);
    }

    private static boolean under(int kind, int above) {
        return kind == above || kind != 0 && under(ABOVE[kind], above);
    }

    private Row find(int saying, int row) {
        if (!in(saying, now.sayings.size()) || !in(row, now.sayings.get(saying).size())) {
            return null;
        }
        return now.sayings.get(saying).get(row);
    }

    private boolean man(int m) {
        return in(m, now.men.size());
    }

    private static boolean wrongMan(int born, int died, int place, int mark, int late) {
        return !in(born, 401) || !in(died, 401) || died < born || !in(place, 8) || !in(mark, 6) || mark == 3 && !in(late, 401);
    }

    int man(int born, int died, int place, int mark, int late) {
        if (wrongMan(born, died, place, mark, late)) {
            return no(-6);
        }
        if (now.men.size() == 24) {
            return no(-7);
        }
        Man m = new Man();
        m.parts = new int[] {born, died, place, mark, late};
        now.men.add(m);
        return now.men.size() - 1;
    }

    int men(int s, int i, int n) {
        if (numbersWanted(s) != 0) {
            return no(numbersWanted(s));
        }
        if (n < 0) {
            return no(-4);
        }
        if (i < 0 || (long) i + n > numbers(s).length) {
            return no(-5);
        }
        if (n % 5 != 0) {
            return no(-6);
        }
        int came = 0;
        int[] before = refused.clone();
        for (int k = i; k < i + n; k += 5) {
            long[] e = numbers(s);
            if (man((int) e[k], (int) e[k + 1], (int) e[k + 2], (int) e[k + 3], (int) e[k + 4]) < 0) {
                break;
            }
            came++;
        }
        System.arraycopy(before, 0, refused, 0, 8);
        return came;
    }

    int journey(int m, int place, int from, int to) {
        if (!man(m)) {
            return no(-1);
        }
        if (!in(place, 8) || !in(from, 401) || !in(to, 401) || to < from) {
            return no(-6);
        }
        List<int[]> js = now.men.get(m).journeys;
        if (js.size() == 3) {
            return no(-7);
        }
        js.add(new int[] {place, from, to});
        return js.size();
    }

    int found(int m, int born, int died) {
        if (!man(m)) {
            return no(-1);
        }
        if (wrongMan(born, died, 0, 0, 0)) {
            return no(-6);
        }
        now.men.get(m).parts[0] = born;
        now.men.get(m).parts[1] = died;
        return 1;
    }

    int mark(int m, int v, int late) {
        if (!man(m)) {
            return no(-1);
        }
        if (!in(v, 6) || v == 3 && !in(late, 401)) {
            return no(-6);
        }
        int was = markOf(m);
        now.men.get(m).parts[3] = v;
        if (v == 3) {
            now.men.get(m).parts[4] = late;
        }
        return was;
    }

    private int markOf(int m) {
        return now.men.get(m).parts[3];
    }

    int manOf(int m, int what) {
        if (!man(m) || !in(what, 5)) {
            return no(-5);
        }
        return what == 4 ? now.men.get(m).journeys.size() : now.men.get(m).parts[what];
    }

    int where(int m, int year) {
        if (!man(m) || !lives(m, year)) {
            return -1;
        }
        int place = now.men.get(m).parts[2];
        for (int[] j : now.men.get(m).journeys) {
            if (j[1] <= year && year <= j[2]) {
                place = j[0];
            }
        }
        return place;
    }

    private boolean lives(int m, int year) {
        return now.men.get(m).parts[0] <= year && year <= now.men.get(m).parts[1];
    }

    private String textOf(int s) {
        StringBuilder t = new StringBuilder();
        for (long e : numbers(s)) {
            int letter = (int) e;
            t.append(letter < 0 || letter > 255 ? '?' : (char) letter);
        }
        return t.toString();
    }

    private static int syntaxFault(Pattern pattern, String text) {
        for (int end = 1; end <= text.length(); end++) {
            Matcher m = pattern.matcher(text.substring(0, end));
            if (!m.matches() && !m.hitEnd()) {
                return end - 1;
            }
        }
        return pattern.matcher(text).matches() ? -1 : text.length();
    }

    private static int least(int a, int b) {
        return a == -1 ? b : b == -1 ? a : Math.min(a, b);
    }

    private static int rulesFault(String text) {
        int fault = syntaxFault(RULES, text);
        Matcher m = Pattern.compile("([a-z]+) ([0-9]{1,2})").matcher(text);
        while (m.find() && (fault == -1 || m.start() < fault)) {
            int word = Arrays.asList(WORDS).indexOf(m.group(1));
            if (word != -1 && Integer.parseInt(m.group(2)) > MOST[word] && (fault == -1 || m.start(2) < fault)) {
                return m.start(2);
            }
        }
        return fault;
    }

    private int bookFault(String text) {
        int fault = syntaxFault(BOOK, text);
        int from = 0;
        for (String row : text.split(";", -1)) {
            List<Integer> had = new ArrayList<>();
            Matcher m = Pattern.compile("(?<!word )(?<![0-9])[0-9]{1,2}").matcher(row);
            while (m.find()) {
                int man = Integer.parseInt(m.group());
                if (!man(man) || had.contains(man)) {
                    fault = fault == -1 || from + m.start() < fault ? from + m.start() : fault;
                    break;
                }
                had.add(man);
            }
            from += row.length() + 1;
            if (fault != -1 && fault < from) {
                return fault;
            }
        }
        return fault;
    }

    int rules(int s) {
        if (numbersWanted(s) != 0) {
            return no(numbersWanted(s));
        }
        faultPlace = rulesFault(textOf(s));
        if (faultPlace != -1) {
            return no(-6);
        }
        if (now.rules.size() == 6) {
            return no(-7);
        }
        int[] r = FIRST.clone();
        for (String part : textOf(s).split(";")) {
            r[Arrays.asList(WORDS).indexOf(part.split(" ")[0])] = Integer.parseInt(part.split(" ")[1]);
        }
        now.rules.add(r);
        return now.rules.size() - 1;
    }

    int fault() {
        return faultPlace;
    }

    int rule(int r, int i) {
        return in(r, now.rules.size()) && in(i, 14) ? now.rules.get(r)[i] : no(-5);
    }

    int force(int r) {
        if (r != -1 && !in(r, now.rules.size())) {
            return noTen(-1);
        }
        int was = now.force;
        now.force = r;
        return was;
    }

    private int[] by(int r) {
        return r == -1 ? FIRST : now.rules.get(r);
    }

    private int[] by() {
        return by(now.force);
    }

    int book(int s) {
        if (numbersWanted(s) != 0) {
            return no(numbersWanted(s));
        }
        faultPlace = bookFault(textOf(s));
        if (faultPlace != -1) {
            return no(-6);
        }
        if (now.sayings.size() == 8) {
            return no(-7);
        }
        List<Row> saying = new ArrayList<>();
        for (String row : textOf(s).split(";")) {
            Row r = rowOf(row);
            r.saying = now.sayings.size();
            r.number = saying.size();
            saying.add(r);
        }
        now.sayings.add(saying);
        return now.sayings.size() - 1;
    }

    private static Row rowOf(String text) {
        Row r = new Row();
        List<String> parts = new ArrayList<>(Arrays.asList(text.split(" ")));
        if (KINDS.contains(parts.get(0))) {
            r.kind = KINDS.indexOf(parts.remove(0));
        }
        for (int i = 0; i < parts.size(); i++) {
            if (parts.get(i).equals("word")) {
                r.wording = Integer.parseInt(parts.get(i + 1));
                break;
            }
            if (i % 2 == 0) {
                r.men.add(Integer.parseInt(parts.get(i)));
            } else {
                r.links.add(LINKS.indexOf(parts.get(i)));
            }
        }
        return r;
    }

    private boolean saying(int s) {
        return in(s, now.sayings.size());
    }

    int rows(int s) {
        return saying(s) ? now.sayings.get(s).size() : no(-1);
    }

    int rowOf(int s, int row, int what) {
        Row r = find(s, row);
        if (r == null) {
            return no(-5);
        }
        if (in(what, 3)) {
            return what == 0 ? r.kind : what == 1 ? r.men.size() : r.wording;
        }
        if (what >= 10 && what < 20 && in(what - 10, r.men.size())) {
            return r.men.get(what - 10);
        }
        return what >= 20 && in(what - 20, r.links.size()) ? r.links.get(what - 20) : no(-5);
    }

    private int whenBy(int a, int b, int[] r) {
        if (r[1] == 0) {
            return 0;
        }
        for (int y = 0; y <= 400; y++) {
            boolean ofAge = y - now.men.get(a).parts[0] >= r[0] && y - now.men.get(b).parts[0] >= r[0];
            if (lives(a, y) && lives(b, y) && ofAge && (r[1] == 1 || where(a, y) == where(b, y))) {
                return y;
            }
        }
        return -1;
    }

    private boolean hears(int a, int b) {
        return whenBy(a, b, by()) != -1;
    }

    int could(int a, int b) {
        if (!man(a) || !man(b)) {
            return no(-1);
        }
        return a == b ? no(-6) : hears(a, b) ? 1 : 0;
    }

    int when(int a, int b) {
        return man(a) && man(b) && a != b ? whenBy(a, b, by()) : -1;
    }

    private boolean linkHolds(Row r, int i, int kind, int[] by) {
        int link = r.links.get(i);
        switch (kind) {
            case 1:
                return linkHolds(r, i, 0, by) && link == 0;
            case 2:
                return linkHolds(r, i, 0, by) || link == 2;
            case 3:
                return linkHolds(r, i, 2, by) || link == 1 && markOf(r.men.get(i)) == 5;
            default:
                return whenBy(r.men.get(i), r.men.get(i + 1), by) != -1;
        }
    }

    private int failsBy(Row r, int[] by) {
        for (int i = 0; i < r.links.size(); i++) {
            if (!linkHolds(r, i, r.kind, by)) {
                return i;
            }
        }
        return -1;
    }

    private int surenessBy(Row r, int i, int[] by) {
        int m = r.men.get(i);
        if (markOf(m) != 3) {
            return by[2 + markOf(m)];
        }
        int when = i == 0 ? -1 : whenBy(r.men.get(i - 1), m, by);
        return when == -1 || when >= now.men.get(m).parts[4] ? by[5] : by[3];
    }

    private int strengthBy(Row r, int[] by) {
        if (failsBy(r, by) != -1) {
            return 0;
        }
        int strength = 9;
        for (int i = 0; i < r.men.size(); i++) {
            strength = Math.min(strength, surenessBy(r, i, by));
        }
        for (int i = 0; i < r.links.size(); i++) {
            boolean hides = markOf(r.men.get(i)) == 5;
            strength -= r.links.get(i) == 2 ? by[9] : r.links.get(i) == 1 && hides ? by[8] : 0;
        }
        strength = Math.max(0, strength);
        if (r.kind == 2 || r.kind == 3) {
            strength = Math.max(0, strength - by[10]);
        }
        if (r.kind == 5 || r.kind == 6) {
            strength = Math.max(0, strength - by[11]);
        }
        return r.kind == 6 ? strength / 2 : strength;
    }

    private boolean standsBy(Row r, int[] by) {
        return failsBy(r, by) == -1 && strengthBy(r, by) >= by[12];
    }

    private List<Row> standing(int s, int[] by) {
        List<Row> up = new ArrayList<>();
        for (Row r : now.sayings.get(s)) {
            if (standsBy(r, by)) {
                up.add(r);
            }
        }
        return up;
    }

    int fails(int s, int row) {
        return find(s, row) == null ? noTen(-1) : failsBy(find(s, row), by());
    }

    int strength(int s, int row) {
        return find(s, row) == null ? no(-1) : strengthBy(find(s, row), by());
    }

    int stands(int s, int row) {
        return find(s, row) == null ? no(-1) : standsBy(find(s, row), by()) ? 1 : 0;
    }

    int sureness(int s, int row, int i) {
        Row r = find(s, row);
        return r == null || !in(i, r.men.size()) ? no(-1) : surenessBy(r, i, by());
    }

    int judge(int saying, int s) {
        if (!saying(saying)) {
            return noTen(-1);
        }
        if (numbersWanted(s) != 0) {
            return noTen(numbersWanted(s));
        }
        for (Row r : now.sayings.get(saying)) {
            if ((int) element(s, r.number) != strengthBy(r, by())) {
                return r.number;
            }
        }
        return -1;
    }

    private int firstOf(int s) {
        Row r = find(s, 0);
        return r.men.get(r.men.size() - 1);
    }

    /** The men of each way (without the first), as bits. */
    private List<Integer> ways(int s) {
        int[] next = new int[24];
        int starts = 0;
        for (Row r : standing(s, by())) {
            if (r.kind != 4 && r.men.get(r.men.size() - 1) == firstOf(s)) {
                starts |= 1 << r.men.get(0);
                for (int i = 0; i < r.links.size(); i++) {
                    next[r.men.get(i)] |= 1 << r.men.get(i + 1);
                }
            }
        }
        List<Integer> ways = new ArrayList<>();
        for (int m = 0; m < 24; m++) {
            if ((starts >> m & 1) != 0) {
                walk(m, 0, next, firstOf(s), ways);
            }
        }
        return ways;
    }

    private static void walk(int at, int been, int[] next, int first, List<Integer> ways) {
        if (at == first) {
            if (!ways.contains(been)) {
                ways.add(been);
            }
            return;
        }
        for (int m = 0; m < 24; m++) {
            if ((next[at] >> m & 1) != 0 && (been >> m & 1) == 0) {
                walk(m, been | 1 << at, next, first, ways);
            }
        }
    }

    private static int pack(List<Integer> ways, int from, int used) {
        int best = 0;
        for (int w = from; w < ways.size(); w++) {
            if ((ways.get(w) & used) == 0) {
                best = Math.max(best, 1 + pack(ways, w + 1, used | ways.get(w)));
            }
        }
        return best;
    }

    int apart(int s) {
        return saying(s) ? pack(ways(s), 0, 0) : no(-1);
    }

    int cut(int s) {
        if (!saying(s)) {
            return no(-1);
        }
        List<Integer> ways = ways(s);
        int all = 0;
        for (int w : ways) {
            all |= w;
        }
        int best = all;
        for (int set = all; set >= 0; set = set == 0 ? -1 : set - 1 & all) {
            boolean hits = true;
            for (int w : ways) {
                hits &= (w & set) != 0;
            }
            if (hits && (Integer.bitCount(set) < Integer.bitCount(best)
                || Integer.bitCount(set) == Integer.bitCount(best) && set < best)) {
                best = set;
            }
        }
        return best;
    }

    int knots(int s) {
        if (!saying(s)) {
            return no(-1);
        }
        List<Integer> ways = ways(s);
        int bits = ways.isEmpty() ? 0 : -1;
        for (int w : ways) {
            bits &= w;
        }
        return bits;
    }

    int alone(int m) {
        if (!man(m)) {
            return no(-1);
        }
        int bits = 0;
        for (int s = 0; s < now.sayings.size(); s++) {
            bits |= (knots(s) >> m & 1) << s;
        }
        return bits;
    }

    int agree(int m) {
        if (!man(m)) {
            return no(-1);
        }
        int count = 0;
        for (int s = 0; s < now.sayings.size(); s++) {
            boolean with = false;
            boolean without = false;
            for (Row r : standing(s, by())) {
                with |= r.men.contains(m);
                without |= !r.men.contains(m);
            }
            count += with && without ? 1 : 0;
        }
        return count;
    }

    int weight(int s) {
        if (!saying(s)) {
            return no(-1);
        }
        int best = 0;
        for (Row r : standing(s, by())) {
            best = Math.max(best, strengthBy(r, by()));
        }
        int apart = apart(s);
        return standing(s, by()).isEmpty() ? 0 : Math.min(99, best + (apart > 1 ? by()[13] * (apart - 1) : 0));
    }

    int wordings(int s) {
        if (!saying(s)) {
            return no(-1);
        }
        int bits = 0;
        for (Row r : standing(s, by())) {
            bits |= 1 << r.wording;
        }
        return bits;
    }

    int mouths(int s) {
        if (!saying(s)) {
            return no(-1);
        }
        if (Integer.bitCount(wordings(s)) < 2) {
            return 0;
        }
        int bits = 0;
        for (int m = 0; m < now.men.size(); m++) {
            for (int w = 0; w < 8; w++) {
                boolean all = (wordings(s) >> w & 1) != 0;
                for (Row r : standing(s, by())) {
                    all &= r.men.contains(m) == (r.wording == w);
                }
                bits |= all ? 1 << m : 0;
            }
        }
        return bits;
    }

    int clash(int a, int b, boolean is) {
        if (!saying(a) || !saying(b)) {
            return no(-1);
        }
        if (a == b) {
            return no(-6);
        }
        int changed = now.clash[a][b] == is ? 0 : 1;
        now.clash[a][b] = is;
        now.clash[b][a] = is;
        return changed;
    }

    int doubt(int what) {
        if (!in(what, 3)) {
            return no(-5);
        }
        int n = now.sayings.size();
        int[] weights = new int[n];
        for (int s = 0; s < n; s++) {
            weights[s] = weight(s);
        }
        int least = Integer.MAX_VALUE;
        List<Integer> sets = new ArrayList<>();
        for (int set = 0; set < 1 << n; set++) {
            int sum = 0;
            boolean good = true;
            for (int a = 0; a < n; a++) {
                sum += (set >> a & 1) * weights[a];
                for (int b = 0; b < n; b++) {
                    good &= !now.clash[a][b] || (set >> a & 1) != 0 || (set >> b & 1) != 0;
                }
            }
            if (good && sum < least) {
                sets.clear();
                least = sum;
            }
            if (good && sum == least) {
                sets.add(set);
            }
        }
        return what == 0 ? sets.get(0) : what == 1 ? least : sets.size();
    }

    int like(int s, int row) {
        Row x = find(s, row);
        if (x == null) {
            return noTen(-1);
        }
        for (List<Row> saying : now.sayings) {
            for (Row y : saying) {
                int way = likeness(x, y);
                if (y != x && way != 0) {
                    return 100 * y.saying + 10 * y.number + way;
                }
            }
        }
        return -1;
    }

    private int likeness(Row x, Row y) {
        for (int i = 0; i < x.men.size(); i++) {
            List<Integer> rest = new ArrayList<>(x.men);
            int man = rest.remove(i);
            if (rest.equals(y.men)) {
                return 1;
            }
            if (x.men.size() == y.men.size()) {
                List<Integer> others = new ArrayList<>(y.men);
                int other = others.remove(i);
                if (rest.equals(others) && man != other && markOf(man) == 1 && markOf(other) != 1) {
                    return 2;
                }
            }
        }
        return 0;
    }

    int between(int a, int b) {
        if (!man(a) || !man(b)) {
            return no(-1);
        }
        if (a == b) {
            return no(-6);
        }
        int bits = 0;
        for (int c = 0; c < now.men.size(); c++) {
            bits |= c != a && c != b && hears(a, c) && hears(c, b) ? 1 << c : 0;
        }
        return bits;
    }

    int silent(int m) {
        if (!man(m)) {
            return no(-1);
        }
        int bits = 0;
        for (int c = 0; c < now.men.size(); c++) {
            boolean said = c == m || !hears(m, c);
            for (List<Row> saying : now.sayings) {
                for (Row r : saying) {
                    int i = r.men.indexOf(m);
                    said |= i != -1 && r.men.indexOf(c) == i + 1;
                }
            }
            bits |= said ? 0 : 1 << c;
        }
        return bits;
    }

    int beside(int a, int b) {
        if (a != -1 && !in(a, now.rules.size()) || b != -1 && !in(b, now.rules.size())) {
            return no(-1);
        }
        int bits = 0;
        for (int s = 0; s < now.sayings.size(); s++) {
            bits |= standing(s, by(a)).isEmpty() != standing(s, by(b)).isEmpty() ? 1 << s : 0;
        }
        return bits;
    }

    int act(int s, int row, int act, int x) {
        ran.clear();
        Row r = find(s, row);
        return r == null || !in(act, 3) ? 0 : body(r, r.kind, act, x);
    }

    private int body(Row r, int kind, int act, int x) {
        int k = r.men.size();
        String name = kind + "." + act;
        int[] numbers = {10, 11, 12};
        switch (name) {
            case "1.1":
                ran.add(20);
                return body(r, 0, 1, x) + k;
            case "2.0":
                ran.add(30);
                return body(r, 0, 0, x) * 3;
            case "3.0":
                ran.add(40);
                return body(r, 2, 0, x + 1);
            case "3.2":
                ran.add(41);
                return body(r, 2, 2, x) - r.number;
            case "4.1":
                ran.add(50);
                return -body(r, 0, 1, x);
            case "5.2":
                ran.add(60);
                return body(r, 0, 2, x) * 2;
            case "6.2":
                ran.add(70);
                return body(r, 5, 2, x) ^ 7;
            case "6.0":
                ran.add(71);
                return body(r, 5, 0, x) - k;
            default:
                break;
        }
        if (kind != 0) {
            return body(r, ABOVE[kind], act, x);
        }
        ran.add(numbers[act]);
        if (act == 0) {
            return x + r.number;
        }
        return act == 1 ? body(r, r.kind, 0, x) * 2 : body(r, r.kind, 1, x) ^ body(r, r.kind, 0, x - k);
    }

    int trace(int i) {
        return in(i, Math.min(20, ran.size())) ? ran.get(i) : -1;
    }

    int image() {
        kept = now.copy();
        return now.sayings.size();
    }

    int restore() {
        if (kept == null) {
            return no(-6);
        }
        now = kept.copy();
        for (int s = 0; s < 8; s++) {
            if (shelves[s] instanceof Row && ((Row) shelves[s]).saying >= now.sayings.size()) {
                shelves[s] = null;
            }
        }
        return now.sayings.size();
    }

    int status(int what) {
        int rows = 0;
        int clashes = 0;
        for (List<Row> saying : now.sayings) {
            rows += saying.size();
        }
        for (int a = 0; a < 8; a++) {
            for (int b = 0; b < a; b++) {
                clashes += now.clash[a][b] ? 1 : 0;
            }
        }
        int[] counts = {now.men.size(), now.rules.size(), now.sayings.size(), rows, clashes, ran.size()};
        return in(what, 6) ? counts[what] : what >= 11 && what <= 17 ? refused[what - 10] : -1;
    }
}
