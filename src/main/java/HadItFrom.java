import java.util.Arrays;

/**
 * Men who had sayings one from another: who could have heard whom, by which rows a saying stands,
 * how strong it is, and what is to be doubted. ../shared/DOC.md tells what each call answers.
 */
public final class HadItFrom {
    public static final int NONE = -1;

    private static final int SHELVES = 8;
    private static final int ELEMENTS = 100;
    private static final int LAST_SORT = 3;
    /** What holds() adds to the sort: above each 10 times a saying and its row. */
    private static final int NUMBERS = 100;

    private static final int MEN = 24;
    private static final int MAN_PARTS = 5;
    private static final int JOURNEYS = 3;
    private static final int LAST_YEAR = 400;
    private static final int LAST_PLACE = 7;
    private static final int SAYINGS = 8;
    private static final int ROWS = 8;
    private static final int ROW_MEN = 8;
    private static final int WORDINGS = 8;
    private static final int KEPT_BODIES = 20;
    private static final int MOST_WEIGHT = 99;

    private static final int MARK_SURE = 1;
    private static final int MARK_LATE = 3;
    private static final int MARK_HIDES = 5;
    private static final int LAST_MARK = 5;

    private static final int TOLD = 0;
    private static final int FROM_LINK = 1;
    private static final int HEARD_LINK = 2;

    private static final int KIND_ROW = 0;
    private static final int KIND_WHOLE = 1;
    private static final int KIND_GAP = 2;
    private static final int KIND_HIDDEN = 3;
    private static final int KIND_HUNG = 4;
    private static final int KIND_RAISED = 5;
    private static final int KIND_MADE = 6;

    private static final int RULES = 6;
    private static final int RULE_WORDS = 14;
    private static final int AGE = 0;
    private static final int NEAR = 1;
    private static final int UNKNOWN = 2;
    private static final int SURE = 3;
    private static final int LATE = 5;
    private static final int FROM = 8;
    private static final int HEARD = 9;
    private static final int GAP = 10;
    private static final int RAISE = 11;
    private static final int BAR = 12;
    private static final int MORE = 13;
    private static final int[] FIRST_RULES = {10, 2, 3, 9, 5, 2, 0, 6, 1, 2, 3, 2, 3, 1};
    private static final int[] MOST_OF_RULES = {99, 2, 9, 9, 9, 9, 9, 9, 9, 9, 9, 9, 99, 99};

    private static final int NOBODY = -1;
    private static final int OTHER = -2;
    private static final int NOTHING = -3;
    private static final int BELOW = -4;
    private static final int BEYOND = -5;
    private static final int WRONG = -6;
    private static final int ROOM = -7;
    private static final int FIRST_REFUSAL_STATUS = 11;
    private static final int LAST_REFUSAL_STATUS = 17;

    private final long[][] elements = new long[SHELVES][ELEMENTS];
    private final int[] sizes = new int[SHELVES];
    /** What each shelf holds, in the numbers of holds(). */
    private final int[] held = new int[SHELVES];
    private final World now = new World();
    private final World kept = new World();
    private boolean isKept = false;
    private final Text text = new Text();
    private int faultPlace = NONE;
    private final int[] readNumbers = new int[RULE_WORDS];
    private final Row[] readRows = new Row[ROWS];
    private final Net net = new Net();
    private final int[] weights = new int[SAYINGS];
    /** How many bodies ran, and from 1 on their numbers. */
    private final int[] ran = new int[KEPT_BODIES + 1];
    private final int[] refusals = new int[-ROOM + 1];

    public HadItFrom() {
        for (int s = 0; s < SHELVES; s++) {
            held[s] = NONE;
        }
    }

    // ---- shelves

    public int row(int s, int sort, int n) {
        if (!isShelf(s)) {
            return refuse(NOBODY);
        }
        if (n < 0) {
            return refuse(BELOW);
        }
        if (sort < 0 || sort > LAST_SORT) {
            return refuse(WRONG);
        }
        if (n > ELEMENTS) {
            return refuse(ROOM);
        }
        held[s] = NUMBERS + sort;
        sizes[s] = n;
        for (int i = 0; i < n; i++) {
            elements[s][i] = 0;
        }
        return 1;
    }

    public int set(int s, int i, long v) {
        int refusal = refusalOfNumbers(s);
        if (refusal != 0) {
            return refuse(refusal);
        }
        if (i < 0 || i >= sizes[s]) {
            return refuse(BEYOND);
        }
        elements[s][i] = lowestBits(held[s] - NUMBERS, v);
        return 1;
    }

    public int copy(int p, int q, int i, int j, int n) {
        int refusal = refusalOfCopy(p, q);
        if (refusal != 0) {
            return refuse(refusal);
        }
        if (n < 0) {
            return refuse(BELOW);
        }
        if (!hasElements(p, i, n) || !hasElements(q, j, n)) {
            return refuse(BEYOND);
        }
        System.arraycopy(elements[p], i, elements[q], j, n);
        return 1;
    }

    public long element(int s, int i) {
        if (refusalOfNumbers(s) != 0 || i < 0 || i >= sizes[s]) {
            return 0;
        }
        return elements[s][i];
    }

    public int show(int s, int saying, int row) {
        if (!isShelf(s)) {
            return refuse(NOBODY);
        }
        if (saying == NONE) {
            held[s] = NONE;
            return 0;
        }
        if (now.rowAt(saying, row) == null) {
            return refuse(NOBODY);
        }
        held[s] = 10 * saying + row;
        return 1;
    }

    public int holds(int s) {
        return isShelf(s) ? held[s] : NONE;
    }

    public int says(int s, int kind) {
        if (!isShelf(s) || kind < KIND_ROW || kind > KIND_MADE) {
            return refuse(NOBODY);
        }
        if (held[s] >= NUMBERS) {
            return refuse(OTHER);
        }
        Row shown = holdsMen(s) ? now.rowAt(held[s] / 10, held[s] % 10) : null;
        if (shown == null) {
            return refuse(NOTHING);
        }
        if (!shown.isOf(kind)) {
            return refuse(OTHER);
        }
        return shown.saysAs(kind);
    }

    // ---- men

    public int man(int born, int died, int place, int mark, int late) {
        if (!isLife(born, died) || !isPlace(place) || !isMark(mark, late)) {
            return refuse(WRONG);
        }
        if (now.manCount >= MEN) {
            return refuse(ROOM);
        }
        return now.addMan(born, died, place, mark, late);
    }

    public int men(int s, int i, int n) {
        int refusal = refusalOfNumbers(s);
        if (refusal != 0) {
            return refuse(refusal);
        }
        if (n < 0) {
            return refuse(BELOW);
        }
        if (!hasElements(s, i, n)) {
            return refuse(BEYOND);
        }
        if (n % MAN_PARTS != 0) {
            return refuse(WRONG);
        }
        return menCome(elements[s], i, n / MAN_PARTS);
    }

    public int journey(int man, int place, int from, int to) {
        if (!now.hasMan(man)) {
            return refuse(NOBODY);
        }
        if (!isPlace(place) || !isLife(from, to)) {
            return refuse(WRONG);
        }
        if (now.men[man].journeys >= JOURNEYS) {
            return refuse(ROOM);
        }
        return now.men[man].addJourney(place, from, to);
    }

    public int found(int man, int born, int died) {
        if (!now.hasMan(man)) {
            return refuse(NOBODY);
        }
        if (!isLife(born, died)) {
            return refuse(WRONG);
        }
        now.men[man].born = born;
        now.men[man].died = died;
        return 1;
    }

    public int mark(int man, int v, int late) {
        if (!now.hasMan(man)) {
            return refuse(NOBODY);
        }
        if (!isMark(v, late)) {
            return refuse(WRONG);
        }
        int before = now.men[man].mark;
        now.men[man].becomesMarked(v, late);
        return before;
    }

    public int manOf(int man, int what) {
        if (!now.hasMan(man)) {
            return refuse(BEYOND);
        }
        Man asked = now.men[man];
        switch (what) {
            case 0:
                return asked.born;
            case 1:
                return asked.died;
            case 2:
                return asked.place;
            case 3:
                return asked.mark;
            case 4:
                return asked.journeys;
            default:
                return refuse(BEYOND);
        }
    }

    public int where(int man, int year) {
        if (!now.hasMan(man) || year < now.men[man].born || year > now.men[man].died) {
            return NONE;
        }
        return now.men[man].placeIn(year);
    }

    // ---- rules

    public int rules(int s) {
        int refusal = refusalOfNumbers(s);
        if (refusal != 0) {
            return refuse(refusal);
        }
        text.open(elements[s], sizes[s]);
        text.readRules(readNumbers);
        faultPlace = text.bad;
        if (faultPlace != NONE) {
            return refuse(WRONG);
        }
        if (now.ruleCount >= RULES) {
            return refuse(ROOM);
        }
        return now.addRules(readNumbers);
    }

    public int fault() {
        return faultPlace;
    }

    public int rule(int rules, int i) {
        if (!now.hasRules(rules) || i < 0 || i >= RULE_WORDS) {
            return refuse(BEYOND);
        }
        return now.rules[rules][i];
    }

    public int force(int rules) {
        if (rules != NONE && !now.hasRules(rules)) {
            return refuseBelowTen(NOBODY);
        }
        int before = now.force;
        now.force = rules;
        return before;
    }

    // ---- books and rows

    public int book(int s) {
        int refusal = refusalOfNumbers(s);
        if (refusal != 0) {
            return refuse(refusal);
        }
        text.open(elements[s], sizes[s]);
        int count = text.readBook(readRows, now.manCount);
        faultPlace = text.bad;
        if (faultPlace != NONE) {
            return refuse(WRONG);
        }
        if (now.sayingCount >= SAYINGS) {
            return refuse(ROOM);
        }
        return now.addSaying(readRows, count);
    }

    public int rows(int saying) {
        if (!now.hasSaying(saying)) {
            return refuse(NOBODY);
        }
        return now.rowCounts[saying];
    }

    public int rowOf(int saying, int row, int what) {
        Row asked = now.rowAt(saying, row);
        if (asked == null) {
            return refuse(BEYOND);
        }
        if (what == 0) {
            return asked.kindNumber();
        }
        if (what == 1) {
            return asked.count;
        }
        if (what == 2) {
            return asked.wording;
        }
        if (what >= 10 && what < 10 + asked.count) {
            return asked.who[what - 10];
        }
        if (what >= 20 && what < 20 + asked.count - 1) {
            return asked.links[what - 20];
        }
        return refuse(BEYOND);
    }

    public int could(int a, int b) {
        int refusal = refusalOfTwoMen(a, b);
        if (refusal != 0) {
            return refuse(refusal);
        }
        return now.hears(a, b) ? 1 : 0;
    }

    public int when(int a, int b) {
        if (refusalOfTwoMen(a, b) != 0) {
            return NONE;
        }
        return now.men[a].whenHears(now.men[b], now.numbersInForce());
    }

    public int fails(int saying, int row) {
        Row asked = now.rowAt(saying, row);
        if (asked == null) {
            return refuseBelowTen(NOBODY);
        }
        now.hearLinks(asked, now.numbersInForce());
        return now.failingLink(asked);
    }

    public int strength(int saying, int row) {
        Row asked = now.rowAt(saying, row);
        if (asked == null) {
            return refuse(NOBODY);
        }
        return Math.max(0, now.gradeOf(asked, now.numbersInForce()));
    }

    public int stands(int saying, int row) {
        Row asked = now.rowAt(saying, row);
        if (asked == null) {
            return refuse(NOBODY);
        }
        int[] numbers = now.numbersInForce();
        return now.gradeOf(asked, numbers) >= numbers[BAR] ? 1 : 0;
    }

    public int sureness(int saying, int row, int i) {
        Row asked = now.rowAt(saying, row);
        if (asked == null || i < 0 || i >= asked.count) {
            return refuse(NOBODY);
        }
        int[] numbers = now.numbersInForce();
        now.hearLinks(asked, numbers);
        return now.surenessOf(asked, i, numbers);
    }

    public int judge(int saying, int s) {
        if (!now.hasSaying(saying)) {
            return refuseBelowTen(NOBODY);
        }
        int refusal = refusalOfNumbers(s);
        if (refusal != 0) {
            return refuseBelowTen(refusal);
        }
        now.gradeRows(saying, now.numbersInForce());
        for (int row = 0; row < now.rowCounts[saying]; row++) {
            int told = row < sizes[s] ? (int) elements[s][row] : 0;
            if (told != Math.max(0, now.grades[row])) {
                return row;
            }
        }
        return NONE;
    }

    // ---- sayings

    public int apart(int saying) {
        if (!now.hasSaying(saying)) {
            return refuse(NOBODY);
        }
        layNet(saying);
        return net.mostWays();
    }

    public int cut(int saying) {
        if (!now.hasSaying(saying)) {
            return refuse(NOBODY);
        }
        layNet(saying);
        return net.leastCut();
    }

    public int knots(int saying) {
        if (!now.hasSaying(saying)) {
            return refuse(NOBODY);
        }
        layNet(saying);
        int bits = 0;
        for (int man = 0; man < now.manCount; man++) {
            if (net.isKnot(man)) {
                bits |= 1 << man;
            }
        }
        return bits;
    }

    public int alone(int man) {
        if (!now.hasMan(man)) {
            return refuse(NOBODY);
        }
        int bits = 0;
        for (int saying = 0; saying < now.sayingCount; saying++) {
            layNet(saying);
            if (net.isKnot(man)) {
                bits |= 1 << saying;
            }
        }
        return bits;
    }

    public int agree(int man) {
        if (!now.hasMan(man)) {
            return refuse(NOBODY);
        }
        int[] numbers = now.numbersInForce();
        int count = 0;
        for (int saying = 0; saying < now.sayingCount; saying++) {
            int up = now.gradeRows(saying, numbers);
            int with = now.rowsWith(saying, man) & up;
            if (with != 0 && with != up) {
                count++;
            }
        }
        return count;
    }

    public int weight(int saying) {
        if (!now.hasSaying(saying)) {
            return refuse(NOBODY);
        }
        return weightOf(saying);
    }

    public int wordings(int saying) {
        if (!now.hasSaying(saying)) {
            return refuse(NOBODY);
        }
        return now.wordingsOf(saying, now.gradeRows(saying, now.numbersInForce()));
    }

    public int mouths(int saying) {
        if (!now.hasSaying(saying)) {
            return refuse(NOBODY);
        }
        int up = now.gradeRows(saying, now.numbersInForce());
        if (Integer.bitCount(now.wordingsOf(saying, up)) <= 1) {
            return 0;
        }
        int bits = 0;
        for (int man = 0; man < now.manCount; man++) {
            if (isMouth(saying, man, up)) {
                bits |= 1 << man;
            }
        }
        return bits;
    }

    public int clash(int a, int b, boolean is) {
        if (!now.hasSaying(a) || !now.hasSaying(b)) {
            return refuse(NOBODY);
        }
        if (a == b) {
            return refuse(WRONG);
        }
        if (now.isClash(a, b) == is) {
            return 0;
        }
        now.turnClash(a, b);
        return 1;
    }

    public int doubt(int what) {
        if (what < 0 || what > 2) {
            return refuse(BEYOND);
        }
        for (int saying = 0; saying < now.sayingCount; saying++) {
            weights[saying] = weightOf(saying);
        }
        int best = 0;
        int least = NONE;
        int rivals = 0;
        for (int set = 0; set < 1 << now.sayingCount; set++) {
            int sum = now.endsClashes(set) ? weightOfSet(set) : NONE;
            if (sum != NONE && (least == NONE || sum < least)) {
                best = set;
                least = sum;
                rivals = 1;
            } else if (sum != NONE && sum == least) {
                rivals++;
            }
        }
        return what == 0 ? best : what == 1 ? least : rivals;
    }

    public int like(int saying, int row) {
        Row asked = now.rowAt(saying, row);
        if (asked == null) {
            return refuseBelowTen(NOBODY);
        }
        for (int other = 0; other < now.sayingCount; other++) {
            for (int r = 0; r < now.rowCounts[other]; r++) {
                int way = now.likeness(asked, now.rowAt(other, r));
                if (way != 0) {
                    return 100 * other + 10 * r + way;
                }
            }
        }
        return NONE;
    }

    public int between(int a, int b) {
        int refusal = refusalOfTwoMen(a, b);
        if (refusal != 0) {
            return refuse(refusal);
        }
        int bits = 0;
        for (int c = 0; c < now.manCount; c++) {
            if (c != a && c != b && now.hears(a, c) && now.hears(c, b)) {
                bits |= 1 << c;
            }
        }
        return bits;
    }

    public int silent(int man) {
        if (!now.hasMan(man)) {
            return refuse(NOBODY);
        }
        int bits = 0;
        for (int other = 0; other < now.manCount; other++) {
            if (other != man && now.hears(man, other)) {
                bits |= 1 << other;
            }
        }
        return bits & ~now.toldOf(man);
    }

    public int beside(int rules, int other) {
        if (rules != NONE && !now.hasRules(rules) || other != NONE && !now.hasRules(other)) {
            return refuse(NOBODY);
        }
        int[] numbers = now.numbersOf(rules);
        int[] others = now.numbersOf(other);
        int bits = 0;
        for (int saying = 0; saying < now.sayingCount; saying++) {
            boolean stood = now.gradeRows(saying, numbers) != 0;
            boolean stoodBeside = now.gradeRows(saying, others) != 0;
            if (stood != stoodBeside) {
                bits |= 1 << saying;
            }
        }
        return bits;
    }

    // ---- acts

    public int act(int saying, int row, int act, int x) {
        ran[0] = 0;
        Row actor = now.rowAt(saying, row);
        if (actor == null) {
            return 0;
        }
        switch (act) {
            case 0:
                return actor.actLinks(x, ran);
            case 1:
                return actor.actHolds(x, ran);
            case 2:
                return actor.actWeighs(x, ran);
            default:
                return 0;
        }
    }

    public int trace(int i) {
        if (i < 0 || i >= ran[0] || i >= KEPT_BODIES) {
            return NONE;
        }
        return ran[i + 1];
    }

    // ---- the image, and how many

    public int image() {
        kept.becomes(now);
        isKept = true;
        return now.sayingCount;
    }

    public int restore() {
        if (!isKept) {
            return refuse(WRONG);
        }
        now.becomes(kept);
        for (int s = 0; s < SHELVES; s++) {
            if (holdsMen(s) && now.rowAt(held[s] / 10, held[s] % 10) == null) {
                held[s] = NONE;
            }
        }
        return now.sayingCount;
    }

    public int status(int what) {
        if (what >= FIRST_REFUSAL_STATUS && what <= LAST_REFUSAL_STATUS) {
            return refusals[what - FIRST_REFUSAL_STATUS + 1];
        }
        switch (what) {
            case 0:
                return now.manCount;
            case 1:
                return now.ruleCount;
            case 2:
                return now.sayingCount;
            case 3:
                return now.rowsInAll();
            case 4:
                return now.clashesInAll();
            case 5:
                return ran[0];
            default:
                return NONE;
        }
    }

    // ---- refusals

    private int refuse(int kind) {
        refusals[-kind]++;
        return kind;
    }

    /** For calls whose answers may be NONE: -11 stands for -1, and so on. */
    private int refuseBelowTen(int kind) {
        return refuse(kind) - 10;
    }

    private int refusalOfNumbers(int s) {
        if (!isShelf(s)) {
            return NOBODY;
        }
        if (held[s] == NONE) {
            return NOTHING;
        }
        return held[s] < NUMBERS ? OTHER : 0;
    }

    private int refusalOfCopy(int p, int q) {
        if (!isShelf(p) || !isShelf(q)) {
            return NOBODY;
        }
        boolean bothHold = held[p] != NONE && held[q] != NONE;
        if (holdsMen(p) || holdsMen(q) || bothHold && held[p] != held[q]) {
            return OTHER;
        }
        return bothHold ? 0 : NOTHING;
    }

    private int refusalOfTwoMen(int a, int b) {
        if (!now.hasMan(a) || !now.hasMan(b)) {
            return NOBODY;
        }
        return a == b ? WRONG : 0;
    }

    private static boolean isShelf(int s) {
        return s >= 0 && s < SHELVES;
    }

    private boolean holdsMen(int s) {
        return held[s] != NONE && held[s] < NUMBERS;
    }

    private boolean hasElements(int s, int from, int n) {
        return from >= 0 && from <= sizes[s] - n;
    }

    private static boolean isLife(int born, int died) {
        return born >= 0 && died >= born && died <= LAST_YEAR;
    }

    private static boolean isPlace(int place) {
        return place >= 0 && place <= LAST_PLACE;
    }

    private static boolean isMark(int mark, int late) {
        if (mark < 0 || mark > LAST_MARK) {
            return false;
        }
        return mark != MARK_LATE || late >= 0 && late <= LAST_YEAR;
    }

    private static long lowestBits(int sort, long v) {
        switch (sort) {
            case 0:
                return (byte) v;
            case 1:
                return (short) v;
            case 2:
                return (int) v;
            default:
                return v;
        }
    }

    // ---- what several calls share

    private int menCome(long[] told, int from, int most) {
        int came = 0;
        for (int i = from; came < most && i <= told.length - MAN_PARTS; i += MAN_PARTS) {
            int born = (int) told[i];
            int died = (int) told[i + 1];
            int place = (int) told[i + 2];
            int mark = (int) told[i + 3];
            int late = (int) told[i + 4];
            if (!isLife(born, died) || !isPlace(place) || !isMark(mark, late) || now.manCount >= MEN) {
                break;
            }
            now.addMan(born, died, place, mark, late);
            came++;
        }
        return came;
    }

    private void layNet(int saying) {
        net.lay(now, saying, now.gradeRows(saying, now.numbersInForce()));
    }

    private int weightOf(int saying) {
        int[] numbers = now.numbersInForce();
        int up = now.gradeRows(saying, numbers);
        if (up == 0) {
            return 0;
        }
        int greatest = 0;
        for (int row = 0; row < ROWS; row++) {
            if ((up >> row & 1) != 0) {
                greatest = Math.max(greatest, now.grades[row]);
            }
        }
        net.lay(now, saying, up);
        int more = numbers[MORE] * Math.max(0, net.mostWays() - 1);
        return Math.min(MOST_WEIGHT, greatest + more);
    }

    private int weightOfSet(int set) {
        int sum = 0;
        for (int saying = 0; saying < SAYINGS; saying++) {
            if ((set >> saying & 1) != 0) {
                sum += weights[saying];
            }
        }
        return sum;
    }

    private boolean isMouth(int saying, int man, int up) {
        int with = now.rowsWith(saying, man) & up;
        for (int wording = 0; wording < WORDINGS; wording++) {
            if (with != 0 && with == (now.rowsWorded(saying, wording) & up)) {
                return true;
            }
        }
        return false;
    }

    // ---- classes inside

    /** All that an image keeps: men, rules, sayings and clashes. */
    private static class World {
        final Man[] men = new Man[MEN];
        int manCount = 0;
        final int[][] rules = new int[RULES][RULE_WORDS];
        int ruleCount = 0;
        int force = NONE;
        /** Rows never change, so worlds may share them. */
        final Row[] sayingRows = new Row[SAYINGS * ROWS];
        final int[] rowCounts = new int[SAYINGS];
        int sayingCount = 0;
        final int[] clashes = new int[SAYINGS];
        /** WHEN each link of the row that was looked at last was heard. */
        final int[] heard = new int[ROW_MEN];
        /** The strength of each row that was graded last, NONE where it fails. */
        final int[] grades = new int[ROWS];

        World() {
            for (int man = 0; man < MEN; man++) {
                men[man] = new Man();
            }
        }

        void becomes(World other) {
            for (int man = 0; man < MEN; man++) {
                men[man].becomes(other.men[man]);
            }
            manCount = other.manCount;
            for (int r = 0; r < RULES; r++) {
                System.arraycopy(other.rules[r], 0, rules[r], 0, RULE_WORDS);
            }
            ruleCount = other.ruleCount;
            force = other.force;
            for (int r = 0; r < SAYINGS * ROWS; r++) {
                sayingRows[r] = other.sayingRows[r];
            }
            for (int saying = 0; saying < SAYINGS; saying++) {
                rowCounts[saying] = other.rowCounts[saying];
                clashes[saying] = other.clashes[saying];
            }
            sayingCount = other.sayingCount;
        }

        boolean hasMan(int man) {
            return man >= 0 && man < manCount;
        }

        boolean hasRules(int number) {
            return number >= 0 && number < ruleCount;
        }

        boolean hasSaying(int saying) {
            return saying >= 0 && saying < sayingCount;
        }

        Row rowAt(int saying, int row) {
            if (!hasSaying(saying) || row < 0 || row >= rowCounts[saying]) {
                return null;
            }
            return sayingRows[saying * ROWS + row];
        }

        int addMan(int born, int died, int place, int mark, int late) {
            Man added = men[manCount];
            added.born = born;
            added.died = died;
            added.place = place;
            added.mark = mark;
            added.late = late;
            added.journeys = 0;
            manCount++;
            return manCount - 1;
        }

        int addRules(int[] numbers) {
            System.arraycopy(numbers, 0, rules[ruleCount], 0, RULE_WORDS);
            ruleCount++;
            return ruleCount - 1;
        }

        int addSaying(Row[] added, int count) {
            for (int row = 0; row < count && row < ROWS; row++) {
                sayingRows[sayingCount * ROWS + row] = added[row];
            }
            rowCounts[sayingCount] = count;
            clashes[sayingCount] = 0;
            sayingCount++;
            return sayingCount - 1;
        }

        int[] numbersOf(int number) {
            return hasRules(number) ? rules[number] : FIRST_RULES;
        }

        int[] numbersInForce() {
            return numbersOf(force);
        }

        boolean hears(int a, int b) {
            return men[a].whenHears(men[b], numbersInForce()) != NONE;
        }

        void hearLinks(Row row, int[] numbers) {
            for (int i = 0; i < row.count - 1; i++) {
                heard[i] = men[row.who[i]].whenHears(men[row.who[i + 1]], numbers);
            }
        }

        /** Of the row whose links were heard last. */
        int failingLink(Row row) {
            for (int i = 0; i < row.count - 1; i++) {
                boolean hides = men[row.who[i]].mark == MARK_HIDES;
                if (!row.linkHolds(heard[i] != NONE, row.links[i], hides)) {
                    return i;
                }
            }
            return NONE;
        }

        /** Of the row whose links were heard last. */
        int surenessOf(Row row, int i, int[] numbers) {
            Man man = men[row.who[i]];
            if (man.mark != MARK_LATE) {
                return numbers[UNKNOWN + man.mark];
            }
            boolean early = i > 0 && heard[i - 1] != NONE && heard[i - 1] < man.late;
            return early ? numbers[SURE] : numbers[LATE];
        }

        /** The strength of a row, NONE where it fails: so that it stands just where this is the bar at least. */
        int gradeOf(Row row, int[] numbers) {
            hearLinks(row, numbers);
            if (failingLink(row) != NONE) {
                return NONE;
            }
            int least = surenessOf(row, 0, numbers);
            for (int i = 1; i < row.count; i++) {
                least = Math.min(least, surenessOf(row, i, numbers));
            }
            return row.lessened(Math.max(0, least - lossOfLinks(row, numbers)), numbers);
        }

        int lossOfLinks(Row row, int[] numbers) {
            int loss = 0;
            for (int i = 0; i < row.count - 1; i++) {
                if (row.links[i] == HEARD_LINK) {
                    loss += numbers[HEARD];
                } else if (row.links[i] == FROM_LINK && men[row.who[i]].mark == MARK_HIDES) {
                    loss += numbers[FROM];
                }
            }
            return loss;
        }

        /** Grades the rows of a saying and tells, in bits, which of them stand. */
        int gradeRows(int saying, int[] numbers) {
            int up = 0;
            for (int row = 0; row < rowCounts[saying]; row++) {
                Row graded = rowAt(saying, row);
                grades[row] = graded == null ? NONE : gradeOf(graded, numbers);
                if (grades[row] >= numbers[BAR]) {
                    up |= 1 << row;
                }
            }
            return up;
        }

        int rowsWith(int saying, int man) {
            int bits = 0;
            for (int row = 0; row < rowCounts[saying]; row++) {
                Row looked = rowAt(saying, row);
                if (looked != null && looked.hasMan(man)) {
                    bits |= 1 << row;
                }
            }
            return bits;
        }

        int rowsWorded(int saying, int wording) {
            int bits = 0;
            for (int row = 0; row < rowCounts[saying]; row++) {
                Row looked = rowAt(saying, row);
                if (looked != null && looked.wording == wording) {
                    bits |= 1 << row;
                }
            }
            return bits;
        }

        int wordingsOf(int saying, int up) {
            int bits = 0;
            for (int wording = 0; wording < WORDINGS; wording++) {
                if ((rowsWorded(saying, wording) & up) != 0) {
                    bits |= 1 << wording;
                }
            }
            return bits;
        }

        /** The last man of row 0, NONE where there is no such row. */
        int firstOf(int saying) {
            Row row = rowAt(saying, 0);
            return row == null ? NONE : row.lastMan();
        }

        boolean isClash(int a, int b) {
            return (clashes[a] >> b & 1) != 0;
        }

        void turnClash(int a, int b) {
            clashes[a] ^= 1 << b;
            clashes[b] ^= 1 << a;
        }

        /** Whether no two sayings clash without those of a set. */
        boolean endsClashes(int set) {
            for (int saying = 0; saying < sayingCount; saying++) {
                if ((set >> saying & 1) == 0 && (clashes[saying] & ~set) != 0) {
                    return false;
                }
            }
            return true;
        }

        /** How a row may have been made from another one: 0 if it is not like it. */
        int likeness(Row row, Row other) {
            if (other == null) {
                return 0;
            }
            int same = row.sameMenAhead(other);
            if (row.count == other.count + 1 && row.goesOnAs(same + 1, other, same)) {
                return 1;
            }
            if (row.count != other.count || same >= row.count || !row.goesOnAs(same + 1, other, same + 1)) {
                return 0;
            }
            boolean isSure = men[row.who[same]].mark == MARK_SURE;
            boolean otherIsSure = men[other.who[same]].mark == MARK_SURE;
            return isSure && !otherIsSure ? 2 : 0;
        }

        /** The men of whom, by a link of any row, a man has something. */
        int toldOf(int man) {
            int bits = 0;
            for (int saying = 0; saying < sayingCount; saying++) {
                for (int r = 0; r < rowCounts[saying]; r++) {
                    Row row = rowAt(saying, r);
                    if (row != null) {
                        bits |= row.tellersOf(man);
                    }
                }
            }
            return bits;
        }

        int rowsInAll() {
            int count = 0;
            for (int saying = 0; saying < sayingCount; saying++) {
                count += rowCounts[saying];
            }
            return count;
        }

        int clashesInAll() {
            int count = 0;
            for (int saying = 0; saying < sayingCount; saying++) {
                count += Integer.bitCount(clashes[saying]);
            }
            return count / 2;
        }
    }

    private static class Man {
        /** A man changes his place at most where a journey begins and after it ends. */
        private static final int MOST_MOVES = 2 * JOURNEYS;

        int born = 0;
        int died = 0;
        int place = 0;
        int mark = 0;
        int late = 0;
        int journeys = 0;
        private final int[] places = new int[JOURNEYS];
        private final int[] froms = new int[JOURNEYS];
        private final int[] tos = new int[JOURNEYS];

        void becomes(Man other) {
            born = other.born;
            died = other.died;
            place = other.place;
            mark = other.mark;
            late = other.late;
            journeys = other.journeys;
            System.arraycopy(other.places, 0, places, 0, JOURNEYS);
            System.arraycopy(other.froms, 0, froms, 0, JOURNEYS);
            System.arraycopy(other.tos, 0, tos, 0, JOURNEYS);
        }

        void becomesMarked(int newMark, int newLate) {
            mark = newMark;
            if (newMark == MARK_LATE) {
                late = newLate;
            }
        }

        int addJourney(int to, int fromYear, int toYear) {
            places[journeys] = to;
            froms[journeys] = fromYear;
            tos[journeys] = toYear;
            journeys++;
            return journeys;
        }

        int placeIn(int year) {
            int found = place;
            for (int j = 0; j < journeys; j++) {
                if (year >= froms[j] && year <= tos[j]) {
                    found = places[j];
                }
            }
            return found;
        }

        int whenHears(Man other, int[] numbers) {
            if (numbers[NEAR] == 0) {
                return 0;
            }
            int year = Math.max(born, other.born) + numbers[AGE];
            int last = Math.min(died, other.died);
            if (numbers[NEAR] == 1) {
                return year <= last ? year : NONE;
            }
            for (int move = 0; move <= 2 * MOST_MOVES && year <= last; move++) {
                if (placeIn(year) == other.placeIn(year)) {
                    return year;
                }
                year = Math.min(nextMove(year), other.nextMove(year));
            }
            return NONE;
        }

        /** The first year after one in which he may be elsewhere. */
        int nextMove(int year) {
            int next = LAST_YEAR + 1;
            for (int j = 0; j < journeys; j++) {
                if (froms[j] > year) {
                    next = Math.min(next, froms[j]);
                }
                if (tos[j] >= year) {
                    next = Math.min(next, tos[j] + 1);
                }
            }
            return next;
        }
    }

    /** A row of men, and what all kinds of rows share. */
    private static class Row {
        final int number;
        final int count;
        final int wording;
        final int[] who;
        final int[] links;

        Row(int number, int wording, int[] who, int[] links) {
            this.number = number;
            this.count = who.length;
            this.wording = wording;
            this.who = who;
            this.links = links;
        }

        int kindNumber() {
            return KIND_ROW;
        }

        boolean isOf(int kind) {
            switch (kind) {
                case KIND_ROW:
                    return true;
                case KIND_WHOLE:
                    return this instanceof Whole;
                case KIND_GAP:
                    return this instanceof Gap;
                case KIND_HIDDEN:
                    return this instanceof Hidden;
                case KIND_HUNG:
                    return this instanceof Hung;
                case KIND_RAISED:
                    return this instanceof Raised;
                case KIND_MADE:
                    return this instanceof Made;
                default:
                    return false;
            }
        }

        int saysAs(int kind) {
            switch (kind) {
                case KIND_WHOLE:
                    return wording;
                case KIND_GAP:
                case KIND_HIDDEN:
                    return firstHeard();
                case KIND_HUNG:
                    return lastMan();
                case KIND_RAISED:
                case KIND_MADE:
                    return who[0];
                default:
                    return count;
            }
        }

        int lastMan() {
            return who[count - 1];
        }

        int firstHeard() {
            for (int i = 0; i < count - 1; i++) {
                if (links[i] == HEARD_LINK) {
                    return i;
                }
            }
            return NONE;
        }

        boolean hasMan(int man) {
            for (int i = 0; i < count; i++) {
                if (who[i] == man) {
                    return true;
                }
            }
            return false;
        }

        int tellersOf(int man) {
            int bits = 0;
            for (int i = 0; i < count - 1; i++) {
                if (who[i] == man) {
                    bits |= 1 << who[i + 1];
                }
            }
            return bits;
        }

        int sameMenAhead(Row other) {
            int same = 0;
            while (same < count && same < other.count && who[same] == other.who[same]) {
                same++;
            }
            return same;
        }

        /** Whether the men from one place on are those of another row from a place of it on. */
        boolean goesOnAs(int from, Row other, int otherFrom) {
            if (count - from != other.count - otherFrom) {
                return false;
            }
            for (int i = 0; i < count - from; i++) {
                if (who[from + i] != other.who[otherFrom + i]) {
                    return false;
                }
            }
            return true;
        }

        boolean linkHolds(boolean could, int link, boolean hides) {
            return could;
        }

        int lessened(int strength, int[] numbers) {
            return strength;
        }

        int actLinks(int x, int[] trace) {
            began(trace, 10);
            return x + number;
        }

        int actHolds(int x, int[] trace) {
            began(trace, 11);
            return actLinks(x, trace) * 2;
        }

        int actWeighs(int x, int[] trace) {
            began(trace, 12);
            return actHolds(x, trace) ^ actLinks(x - count, trace);
        }

        static void began(int[] trace, int body) {
            trace[0]++;
            if (trace[0] < trace.length) {
                trace[trace[0]] = body;
            }
        }
    }

    private static class Whole extends Row {
        Whole(int number, int wording, int[] who, int[] links) {
            super(number, wording, who, links);
        }

        int kindNumber() {
            return KIND_WHOLE;
        }

        boolean linkHolds(boolean could, int link, boolean hides) {
            return super.linkHolds(could, link, hides) && link == TOLD;
        }

        int actHolds(int x, int[] trace) {
            began(trace, 20);
            return super.actHolds(x, trace) + count;
        }
    }

    private static class Gap extends Row {
        Gap(int number, int wording, int[] who, int[] links) {
            super(number, wording, who, links);
        }

        int kindNumber() {
            return KIND_GAP;
        }

        boolean linkHolds(boolean could, int link, boolean hides) {
            return super.linkHolds(could, link, hides) || link == HEARD_LINK;
        }

        int lessened(int strength, int[] numbers) {
            return Math.max(0, super.lessened(strength, numbers) - numbers[GAP]);
        }

        int actLinks(int x, int[] trace) {
            began(trace, 30);
            return super.actLinks(x, trace) * 3;
        }
    }

    private static class Hidden extends Gap {
        Hidden(int number, int wording, int[] who, int[] links) {
            super(number, wording, who, links);
        }

        int kindNumber() {
            return KIND_HIDDEN;
        }

        boolean linkHolds(boolean could, int link, boolean hides) {
            return super.linkHolds(could, link, hides) || link == FROM_LINK && hides;
        }

        int actLinks(int x, int[] trace) {
            began(trace, 40);
            return super.actLinks(x + 1, trace);
        }

        int actWeighs(int x, int[] trace) {
            began(trace, 41);
            return super.actWeighs(x, trace) - number;
        }
    }

    private static class Hung extends Row {
        Hung(int number, int wording, int[] who, int[] links) {
            super(number, wording, who, links);
        }

        int kindNumber() {
            return KIND_HUNG;
        }

        int actHolds(int x, int[] trace) {
            began(trace, 50);
            return -super.actHolds(x, trace);
        }
    }

    private static class Raised extends Row {
        Raised(int number, int wording, int[] who, int[] links) {
            super(number, wording, who, links);
        }

        int kindNumber() {
            return KIND_RAISED;
        }

        int lessened(int strength, int[] numbers) {
            return Math.max(0, super.lessened(strength, numbers) - numbers[RAISE]);
        }

        int actWeighs(int x, int[] trace) {
            began(trace, 60);
            return super.actWeighs(x, trace) * 2;
        }
    }

    private static class Made extends Raised {
        Made(int number, int wording, int[] who, int[] links) {
            super(number, wording, who, links);
        }

        int kindNumber() {
            return KIND_MADE;
        }

        int lessened(int strength, int[] numbers) {
            return super.lessened(strength, numbers) / 2;
        }

        int actWeighs(int x, int[] trace) {
            began(trace, 70);
            return super.actWeighs(x, trace) ^ 7;
        }

        int actLinks(int x, int[] trace) {
            began(trace, 71);
            return super.actLinks(x, trace) - count;
        }
    }

    /** Reads rules and books from letters; keeps the first place at which none can go on. */
    private static class Text {
        /** In these lists each word ends with a dot, and none begins with the whole of another. */
        private static final String RULE_NAMES =
            "age .near .unknown .sure .forgets .late .lies .hides .from .heard .gap .raise .bar .more .";
        private static final String KIND_NAMES = "whole .gap .hidden .hung .raised .made .";
        private static final String AFTER_FIRST = " told . from . heard .";
        private static final String AFTER_OTHERS = " told . from . heard . word .";
        private static final String AFTER_LAST = " word .";
        private static final int WORDING_NEXT = 3;
        private static final int ROW_ENDS = 4;

        int bad = NONE;
        private long[] letters = new long[0];
        private int size = 0;
        private int place = 0;
        private final int[] who = new int[ROW_MEN];
        private final int[] links = new int[ROW_MEN];

        void open(long[] newLetters, int newSize) {
            letters = newLetters;
            size = Math.min(newSize, newLetters.length);
            place = 0;
            bad = NONE;
        }

        void readRules(int[] numbers) {
            System.arraycopy(FIRST_RULES, 0, numbers, 0, RULE_WORDS);
            for (int part = 0; part <= size; part++) {
                int word = readWord(RULE_NAMES);
                int number = word == NONE ? NONE : readNumber(MOST_OF_RULES[word]);
                if (number == NONE) {
                    return;
                }
                numbers[word] = number;
                if (place >= size || !goesOnAfterPart()) {
                    return;
                }
            }
        }

        /** Answers how many rows were read, where there is no fault. */
        int readBook(Row[] rowsRead, int manCount) {
            for (int number = 0; number < ROWS; number++) {
                Row row = readRow(number, manCount);
                if (row == null) {
                    return 0;
                }
                rowsRead[number] = row;
                if (place >= size) {
                    return number + 1;
                }
                if (number < ROWS - 1 && !goesOnAfterPart()) {
                    return 0;
                }
            }
            bad = place;
            return 0;
        }

        private Row readRow(int number, int manCount) {
            int kind = digitAt(place) != NONE ? KIND_ROW : readKind();
            if (kind == NONE) {
                return null;
            }
            int used = 0;
            int next = TOLD;
            int count = 0;
            while (count < ROW_MEN && next < WORDING_NEXT) {
                int man = readMan(manCount, used);
                next = man == NONE ? NONE : readNext(count + 1);
                if (next == NONE) {
                    return null;
                }
                who[count] = man;
                links[count] = next;
                used |= 1 << man;
                count++;
            }
            int wording = next == WORDING_NEXT ? readWording() : 0;
            return wording == NONE ? null : newRow(kind, number, wording, count);
        }

        private int readKind() {
            int word = readWord(KIND_NAMES);
            return word == NONE ? NONE : word + KIND_WHOLE;
        }

        private int readMan(int manCount, int used) {
            int first = place;
            int man = readNumber(manCount - 1);
            if (man != NONE && (used >> man & 1) != 0) {
                bad = first;
                return NONE;
            }
            return man;
        }

        /** What comes after so many men of a row: a link, a wording, or the row's end. */
        private int readNext(int count) {
            if (count == 1) {
                return readWord(AFTER_FIRST);
            }
            if (place >= size || (int) letters[place] == ';') {
                return ROW_ENDS;
            }
            if (count < ROW_MEN) {
                return readWord(AFTER_OTHERS);
            }
            return readWord(AFTER_LAST) == NONE ? NONE : WORDING_NEXT;
        }

        private int readWording() {
            int digit = digitAt(place);
            if (digit == NONE || digit >= WORDINGS) {
                bad = place;
                return NONE;
            }
            place++;
            return digit;
        }

        private Row newRow(int kind, int number, int wording, int count) {
            int[] itsMen = Arrays.copyOf(who, count);
            int[] itsLinks = Arrays.copyOf(links, count);
            switch (kind) {
                case KIND_WHOLE:
                    return new Whole(number, wording, itsMen, itsLinks);
                case KIND_GAP:
                    return new Gap(number, wording, itsMen, itsLinks);
                case KIND_HIDDEN:
                    return new Hidden(number, wording, itsMen, itsLinks);
                case KIND_HUNG:
                    return new Hung(number, wording, itsMen, itsLinks);
                case KIND_RAISED:
                    return new Raised(number, wording, itsMen, itsLinks);
                case KIND_MADE:
                    return new Made(number, wording, itsMen, itsLinks);
                default:
                    return new Row(number, wording, itsMen, itsLinks);
            }
        }

        private boolean goesOnAfterPart() {
            if ((int) letters[place] != ';') {
                bad = place;
                return false;
            }
            place++;
            return true;
        }

        private int readNumber(int most) {
            int first = place;
            int number = digitAt(place);
            if (number == NONE) {
                bad = place;
                return NONE;
            }
            place++;
            int digit = digitAt(place);
            if (digit != NONE) {
                number = number * 10 + digit;
                place++;
            }
            if (number > most) {
                bad = first;
                return NONE;
            }
            return number;
        }

        private int digitAt(int at) {
            if (at < 0 || at >= size) {
                return NONE;
            }
            int letter = (int) letters[at];
            return letter >= '0' && letter <= '9' ? letter - '0' : NONE;
        }

        /** The number of that word of a list which stands here; else the fault is where the last of them goes wrong. */
        private int readWord(String words) {
            int number = 0;
            int same = 0;
            int furthest = 0;
            boolean fits = true;
            for (int i = 0; i < words.length(); i++) {
                char sign = words.charAt(i);
                if (sign != '.') {
                    fits = fits && place + same < size && (int) letters[place + same] == sign;
                    same = fits ? same + 1 : same;
                    furthest = Math.max(furthest, same);
                } else if (fits) {
                    place += same;
                    return number;
                } else {
                    number++;
                    same = 0;
                    fits = true;
                }
            }
            bad = place + furthest;
            return NONE;
        }
    }

    /** The ways of a saying, from man to man; the ways that share no man are found by filling and turning back. */
    private static class Net {
        /** Each man has a door in (his number) and a door out (MEN more), and room for one way between them. */
        private static final int START = 2 * MEN;
        private static final int DOORS = 2 * MEN + 1;

        private int first = NONE;
        private int starts = 0;
        private final int[] nexts = new int[MEN];
        /** To which doors, in bits, a way may go on from each door. */
        private final long[] room = new long[DOORS];
        private final int[] from = new int[DOORS];

        /** Lays out those of the rows of a saying that stand (in bits) and belong to its net. */
        void lay(World world, int saying, int up) {
            first = world.firstOf(saying);
            starts = 0;
            for (int man = 0; man < MEN; man++) {
                nexts[man] = 0;
            }
            for (int row = 0; row < ROWS; row++) {
                if ((up >> row & 1) != 0) {
                    layRow(world.rowAt(saying, row));
                }
            }
        }

        private void layRow(Row row) {
            if (row == null || row instanceof Hung || row.lastMan() != first) {
                return;
            }
            starts |= 1 << row.who[0];
            for (int i = 0; i < row.count - 1; i++) {
                nexts[row.who[i]] |= 1 << row.who[i + 1];
            }
        }

        boolean isKnot(int man) {
            return man != first && leadsWithout(0) && !leadsWithout(1 << man);
        }

        private boolean leadsWithout(int man) {
            int seen = starts & ~man;
            int fresh = seen;
            for (int step = 0; step < MEN && fresh != 0; step++) {
                int reached = 0;
                for (int m = 0; m < MEN; m++) {
                    if ((fresh >> m & 1) != 0) {
                        reached |= nexts[m];
                    }
                }
                fresh = reached & ~man & ~seen;
                seen |= fresh;
            }
            return first != NONE && (seen >> first & 1) != 0;
        }

        int mostWays() {
            openRoom();
            int ways = 0;
            while (ways < MEN && findsWay()) {
                takeWay();
                ways++;
            }
            return ways;
        }

        /**
         * From the highest man down: a man of whom one more way could pass if he had endless room is in the cut;
         * else he keeps that room, so that the cut that is left does without him.
         */
        int leastCut() {
            mostWays();
            int cut = 0;
            for (int man = MEN - 1; man >= 0; man--) {
                if (man != first && isNeeded(man)) {
                    cut |= 1 << man;
                }
            }
            return cut;
        }

        private boolean isNeeded(int man) {
            long before = room[man];
            room[man] |= 1L << MEN + man;
            if (room[man] == before || !findsWay()) {
                return false;
            }
            room[man] = before;
            return true;
        }

        private void openRoom() {
            room[START] = starts;
            for (int man = 0; man < MEN; man++) {
                room[man] = man == first ? 0 : 1L << MEN + man;
                room[MEN + man] = nexts[man];
            }
        }

        private boolean findsWay() {
            if (first == NONE) {
                return false;
            }
            long seen = 1L << START;
            long fresh = seen;
            for (int step = 0; step < DOORS && fresh != 0; step++) {
                int door = Long.bitCount((fresh & -fresh) - 1);
                long reached = room[door] & ~seen;
                for (int d = 0; d < DOORS; d++) {
                    if ((reached >> d & 1) != 0) {
                        from[d] = door;
                    }
                }
                seen |= reached;
                fresh = fresh & fresh - 1 | reached;
            }
            return (seen >> first & 1) != 0;
        }

        private void takeWay() {
            int door = first;
            for (int step = 0; step < DOORS && door != START; step++) {
                passDoors(from[door], door);
                door = from[door];
            }
        }

        /** From a door out to the next man's door in there is always room; elsewhere what is taken is gone. */
        private void passDoors(int a, int b) {
            if (a < MEN || b == a - MEN) {
                room[a] &= ~(1L << b);
            }
            room[b] |= 1L << a;
        }
    }
}
