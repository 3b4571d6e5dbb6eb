/** Promises 23 to 29: who could hear whom, and how rows stand. */
public final class HearingTest {
    private static final Checks checks = new Checks("HearingTest");

    public static void main(String[] args) {
        could();
        whenByAge();
        whenByPlace();
        whenByManyMoves();
        fails();
        strength();
        stands();
        sureness();
        judge();
        checks.end();
    }

    private static void due(String call, long got, long want) {
        checks.due(call, got, want);
    }

    private static void could() {
        HadItFrom x = new HadItFrom();
        x.man(0, 60, 0, 1, 0);
        x.man(50, 120, 0, 1, 0);
        x.man(51, 120, 0, 1, 0);
        x.man(0, 60, 1, 1, 0);
        due("23: in the last year", x.could(0, 1), 1);
        due("23: the other way", x.could(1, 0), 1);
        due("23: a year too late", x.could(0, 2), 0);
        due("23: elsewhere", x.could(0, 3), 0);
        due("23: no man", x.could(0, 4), -1);
        due("23: no man, twice", x.could(4, 4), -1);
        due("23: no man", x.could(-1, 0), -1);
        due("23: one", x.could(2, 2), -6);
        Desk.rules(x, "near 1;age 9");
        Desk.rules(x, "near 0");
        x.force(0);
        due("23: near 1", x.could(0, 3), 1);
        due("23: near 1, younger", x.could(0, 2), 1);
        x.found(2, 70, 80);
        due("23: near 1, not in one time", x.could(0, 2), 0);
        x.force(1);
        due("23: near 0", x.could(0, 2), 1);
        due("23: near 0, one", x.could(2, 2), -6);
        due("23: counted", x.status(11) * 10 + x.status(16), 32);
    }

    private static void whenByAge() {
        HadItFrom x = new HadItFrom();
        x.man(0, 60, 0, 1, 0);
        x.man(50, 120, 0, 1, 0);
        x.man(20, 25, 0, 1, 0);
        due("24: when", x.when(0, 1), 60);
        due("24: when", x.when(1, 0), 60);
        due("24: died before he was of age", x.when(0, 2), -1);
        due("24: no man", x.when(0, 3), -1);
        due("24: no man", x.when(-1, 0), -1);
        due("24: one", x.when(0, 0), -1);
        due("24: not refused", x.status(11) + x.status(16), 0);
        Desk.rules(x, "age 0");
        Desk.rules(x, "near 0");
        x.force(0);
        due("24: of age at once", x.when(0, 2), 20);
        due("24: never", x.when(2, 1), -1);
        x.force(1);
        due("24: near 0", x.when(2, 1), 0);
        due("24: near 0, one", x.when(1, 1), -1);
        Desk.rules(x, "age 99;near 1");
        x.force(2);
        x.found(0, 300, 400);
        x.found(1, 301, 400);
        due("24: in the last year of all", x.when(0, 1), 400);
        x.found(1, 302, 400);
        due("24: after it", x.when(0, 1), -1);
    }

    private static void whenByPlace() {
        HadItFrom x = new HadItFrom();
        x.man(0, 100, 0, 1, 0);
        x.man(0, 100, 0, 1, 0);
        due("24: at home", x.when(0, 1), 10);
        x.journey(0, 1, 10, 30);
        due("24: when he is back", x.when(0, 1), 31);
        x.journey(1, 1, 30, 30);
        due("24: there", x.when(0, 1), 30);
        x.journey(0, 2, 20, 40);
        due("24: elsewhere, told later", x.when(0, 1), 41);
        x.journey(1, 2, 5, 22);
        due("24: there earlier", x.when(0, 1), 20);
        x.journey(1, 3, 0, 400);
        due("24: never", x.when(0, 1), -1);
        x.journey(0, 3, 100, 200);
        due("24: in his last year", x.when(0, 1), 100);
        x.found(0, 0, 99);
        due("24: he died before", x.when(0, 1), -1);
    }

    /** Each of them is back before the other one comes; only in 45 one comes home to where the other is. */
    private static void whenByManyMoves() {
        HadItFrom x = new HadItFrom();
        x.man(0, 100, 0, 1, 0);
        x.man(0, 100, 1, 1, 0);
        x.journey(0, 2, 20, 24);
        x.journey(0, 3, 30, 34);
        x.journey(0, 4, 40, 44);
        x.journey(1, 5, 22, 26);
        x.journey(1, 6, 32, 36);
        x.journey(1, 0, 42, 46);
        due("24: after many moves", x.when(0, 1), 45);
        due("24: after many moves", x.when(1, 0), 45);
        x.found(1, 0, 44);
        due("24: not before", x.when(1, 0), -1);
    }

    /** Men 0, 1 (sure) and 3 (hides) live together; 2 (sure) and 4 (hides) much later. */
    private static HadItFrom twoTimes() {
        HadItFrom x = new HadItFrom();
        x.man(0, 100, 0, 1, 0);
        x.man(0, 100, 0, 1, 0);
        x.man(200, 300, 0, 1, 0);
        x.man(0, 100, 0, 5, 0);
        x.man(200, 300, 0, 5, 0);
        return x;
    }

    private static void dueFails(String letters, int want) {
        HadItFrom x = twoTimes();
        int saying = Desk.book(x, letters);
        due("25: fails of " + letters, x.fails(saying, 0), want);
        if (want != -1) {
            due("26: strength of " + letters, x.strength(saying, 0), 0);
        }
    }

    private static void fails() {
        String[] kinds = {"", "hung ", "raised ", "made "};
        for (String kind : kinds) {
            dueFails(kind + "0 told 1 from 3", -1);
            dueFails(kind + "0 told 1 told 2", 1);
            dueFails(kind + "2 heard 0 heard 4", 0);
            dueFails(kind + "3 from 4", 0);
        }
        dueFails("whole 0 told 1 told 3", -1);
        dueFails("whole 0 told 1 from 3", 1);
        dueFails("whole 0 heard 1 told 3", 0);
        dueFails("whole 0 told 1 told 4", 1);
        dueFails("gap 0 told 1 heard 2 told 4", -1);
        dueFails("gap 0 told 1 from 2", 1);
        dueFails("gap 3 from 2", 0);
        dueFails("gap 0 heard 2 told 1", 1);
        dueFails("hidden 0 heard 2", -1);
        dueFails("hidden 3 from 2 from 4", -1);
        dueFails("hidden 3 told 2", 0);
        dueFails("hidden 0 from 4", 0);
        dueFails("hidden 3 from 2 from 0", 1);
        HadItFrom x = twoTimes();
        Desk.book(x, "hidden 3 from 2 from 0");
        due("25: no row", x.fails(0, 1), -11);
        due("25: no row", x.fails(0, -1), -11);
        due("25: no saying", x.fails(1, 0), -11);
        due("25: no saying", x.fails(-1, 0), -11);
        due("25: counted", x.status(11), 4);
    }

    private static HadItFrom ofAllMarks() {
        HadItFrom x = new HadItFrom();
        for (int mark = 0; mark < 6; mark++) {
            x.man(0, 100, 0, mark, 0);
        }
        x.man(0, 100, 0, 1, 0);
        return x;
    }

    private static void dueStrength(String rules, String letters, int want) {
        HadItFrom x = ofAllMarks();
        x.force(Desk.rules(x, rules));
        int saying = Desk.book(x, letters);
        due("26: strength of " + letters, x.strength(saying, 0), want);
        due("27: stands " + letters, x.stands(saying, 0), want >= 3 ? 1 : 0);
    }

    private static void strength() {
        String asAtFirst = "bar 3";
        dueStrength(asAtFirst, "1 told 6", 9);
        dueStrength(asAtFirst, "1 told 0", 3);
        dueStrength(asAtFirst, "2 told 1", 5);
        dueStrength(asAtFirst, "1 told 3", 2);
        dueStrength(asAtFirst, "1 told 4", 0);
        dueStrength(asAtFirst, "1 told 5 told 6", 6);
        dueStrength(asAtFirst, "1 told 2 told 5", 5);
        dueStrength(asAtFirst, "1 heard 6", 7);
        dueStrength(asAtFirst, "1 heard 2", 3);
        dueStrength(asAtFirst, "1 heard 2 heard 6", 1);
        dueStrength(asAtFirst, "1 heard 2 heard 6 heard 5", 0);
        dueStrength(asAtFirst, "5 from 1", 5);
        dueStrength(asAtFirst, "1 from 5", 6);
        dueStrength(asAtFirst, "5 from 1 heard 6", 3);
        dueStrength(asAtFirst, "gap 1 told 6", 6);
        dueStrength(asAtFirst, "gap 1 heard 6", 4);
        dueStrength(asAtFirst, "gap 1 told 3", 0);
        dueStrength(asAtFirst, "hidden 1 told 6", 6);
        dueStrength(asAtFirst, "hidden 5 from 6", 2);
        dueStrength(asAtFirst, "whole 1 told 6", 9);
        dueStrength(asAtFirst, "hung 1 heard 6", 7);
        dueStrength(asAtFirst, "raised 1 told 6", 7);
        dueStrength(asAtFirst, "raised 1 told 0", 1);
        dueStrength(asAtFirst, "raised 1 told 4", 0);
        dueStrength(asAtFirst, "made 1 told 6", 3);
        dueStrength(asAtFirst, "made 5 told 6", 2);
        dueStrength(asAtFirst, "made 1 told 4", 0);
        HadItFrom x = ofAllMarks();
        Desk.book(x, "made 1 told 4");
        due("26: no row", x.strength(0, 1), -1);
        due("26: no saying", x.strength(1, 0), -1);
        due("26: no saying", x.strength(-1, 0), -1);
        due("26: counted", x.status(11), 3);
        String others = "sure 4;from 9;heard 0;gap 1;raise 0;hides 8";
        dueStrength(others, "1 heard 6", 4);
        dueStrength(others, "5 from 1", 0);
        dueStrength(others, "1 from 5", 4);
        dueStrength(others, "gap 1 heard 6", 3);
        dueStrength(others, "raised 1 heard 6", 4);
        dueStrength(others, "made 1 heard 6", 2);
    }

    private static void stands() {
        HadItFrom x = twoTimes();
        Desk.book(x, "0 told 1;0 told 2;gap 0 heard 2 heard 1 heard 3");
        Desk.rules(x, "bar 0");
        Desk.rules(x, "bar 9");
        Desk.rules(x, "bar 10");
        due("27: stands", x.stands(0, 0), 1);
        due("27: fails", x.stands(0, 1), 0);
        due("27: too weak", x.stands(0, 2), 0);
        x.force(0);
        due("27: fails, at bar 0", x.stands(0, 1), 0);
        due("27: of strength 0, at bar 0", x.stands(0, 2), 1);
        due("27: its strength", x.strength(0, 2), 0);
        x.force(1);
        due("27: at the bar", x.stands(0, 0), 1);
        x.force(2);
        due("27: below the bar", x.stands(0, 0), 0);
        due("27: no row", x.stands(0, 3), -1);
        due("27: no saying", x.stands(1, 0), -1);
        due("27: counted", x.status(11), 2);
    }

    private static void sureness() {
        HadItFrom x = new HadItFrom();
        for (int mark = 0; mark < 6; mark++) {
            x.man(0, 100, 0, mark, 10);
        }
        Desk.book(x, "0 told 1 told 2 told 3 told 4 told 5");
        Desk.book(x, "3 told 0");
        int[] want = {3, 9, 5, 2, 0, 6};
        for (int i = 0; i < 6; i++) {
            due("28: of man " + i, x.sureness(0, 0, i), want[i]);
        }
        x.mark(3, 3, 11);
        due("28: before he mixed", x.sureness(0, 0, 3), 9);
        due("28: the first is late", x.sureness(1, 0, 0), 2);
        x.found(2, 0, 9);
        due("28: never", x.sureness(0, 0, 3), 2);
        Desk.rules(x, "near 0;forgets 7;late 4;lies 1");
        x.force(0);
        due("28: near 0 is year 0", x.sureness(0, 0, 3), 9);
        x.mark(3, 3, 0);
        due("28: late from year 0 on", x.sureness(0, 0, 3), 4);
        due("28: forgets", x.sureness(0, 0, 2), 7);
        due("28: lies", x.sureness(0, 0, 4), 1);
        due("28: no man", x.sureness(0, 0, 6), -1);
        due("28: no man", x.sureness(0, 0, -1), -1);
        due("28: no row", x.sureness(0, 1, 0), -1);
        due("28: no saying", x.sureness(2, 0, 0), -1);
        due("28: counted", x.status(11), 4);
    }

    private static void judge() {
        HadItFrom x = twoTimes();
        Desk.book(x, "0 told 1;0 heard 1;0 told 2");
        Desk.list(x, 0, 0, 9, 7, 0, 5);
        due("29: all are", x.judge(0, 0), -1);
        Desk.list(x, 0, 2, 9, 7);
        due("29: a missing one is 0", x.judge(0, 0), -1);
        Desk.list(x, 0, 1, 9);
        due("29: a missing one", x.judge(0, 0), 1);
        x.row(0, 0, 0);
        due("29: none", x.judge(0, 0), 0);
        Desk.list(x, 0, 3, 9, 7, -1);
        due("29: the third", x.judge(0, 0), 2);
        x.show(1, 0, 0);
        due("29: no saying, and a row of men", x.judge(1, 1), -11);
        due("29: no saying", x.judge(-1, 0), -11);
        due("29: no shelf", x.judge(0, 8), -11);
        due("29: no shelf", x.judge(0, -1), -11);
        due("29: a row of men", x.judge(0, 1), -12);
        due("29: nothing", x.judge(0, 2), -13);
        due("29: counted", x.status(11) * 100 + x.status(12) * 10 + x.status(13), 411);
    }
}
