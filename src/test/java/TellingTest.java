/** Promises 1 to 11: the new object, and what is told. */
public final class TellingTest {
    private static final int NONE = -1, BAD = -2, FULL = -4;
    private static final int LEAST = Integer.MIN_VALUE, GREATEST = Integer.MAX_VALUE;
    private static int wrong = 0;

    private static void due(String call, long got, long want) {
        if (got != want) {
            wrong++;
            System.out.println(call + " answered " + got + ", due is " + want);
        }
    }

    public static void main(String[] args) {
        newObject();
        workers();
        feasts();
        kinds();
        rules();
        rates();
        surcharges();
        exclusions();
        targets();
        limits();
        absences();
        System.out.println(wrong == 0 ? "all answers are as due" : wrong + " answers are not as due");
        if (wrong != 0) System.exit(1);
    }

    private static void newObject() {
        ShiftLedger x = new ShiftLedger();
        for (int what = 0; what <= 4; what++) due("1: new count(" + what + ")", x.count(what), 0);
        due("1: new open()", x.open(), 0);
        for (int group = 0; group < 6; group++) {
            for (int day = 0; day < 8; day++) {
                due("1: new day(.., 1)", x.day(group, day, 1), 0);
                due("1: new day(.., 2)", x.day(group, day, 2), 0);
            }
            due("1: new sum(.., 0)", x.sum(group, 35, 0), 0);
            due("1: new sum(.., 1)", x.sum(group, 0, 1), 0);
        }
        due("1: no worker", x.mark(0, 0, 0, 0), NONE);
        due("1: no surcharge", x.exclude(0, 0), NONE);
        due("1: worker", x.worker(0, 0), 0);
        due("1: no target", x.due(0, 0), 0);
        due("1: no rate", x.cents(0, 0), 0);
        due("1: limits are 0", closedFlex(0, 0, 480), 0);
        due("1: a second object knows nothing of the first", new ShiftLedger().count(0), 0);
    }

    /** What the first month's flex is cut to, with a shift of 100 minutes and a target for weekday 0. */
    private static long closedFlex(int low, int high, int target) {
        ShiftLedger x = new ShiftLedger();
        x.worker(2, 0);
        x.mark(0, 1, 0, 0);
        x.mark(0, 1, 100, 1);
        x.target(2, 0, target);
        if (low != 0 || high != 0) x.limits(2, low, high);
        x.close();
        return x.month(0, 0, 2);
    }

    private static void workers() {
        ShiftLedger x = new ShiftLedger();
        int[] noGroups = {-1, 6, LEAST, GREATEST};
        for (int group : noGroups) due("2: worker of group " + group, x.worker(group, 0), NONE);
        int[] noDays = {-1, 1096, LEAST, GREATEST};
        for (int day : noDays) due("2: worker from day " + day, x.worker(0, day), NONE);
        due("2: refused ones are not kept", x.count(0), 0);
        for (int i = 0; i < 30; i++) due("2: worker " + i, x.worker(i % 6, i == 29 ? 1095 : i), i);
        due("2: one more", x.worker(0, 0), FULL);
        due("2: NONE goes ahead of FULL", x.worker(6, 0), NONE);
        due("2: NONE goes ahead of FULL, day", x.worker(0, 1096), NONE);
        due("2: count(0)", x.count(0), 30);
        due("2: its first day", x.mark(5, 4, 0, 0), BAD);
        due("2: its first day", x.mark(5, 5, 0, 0), 1);
        due("2: the last day as first", x.mark(29, 1094, 1439, 0), BAD);
        due("2: the last day as first", x.mark(29, 1095, 0, 0), 1);
        due("2: the worker's group", x.target(5, 0, 77), 0);
        due("2: the worker's group", x.due(5, 7), 77);
        due("2: another group", x.due(4, 7), 0);
    }

    private static void feasts() {
        ShiftLedger x = new ShiftLedger();
        due("3: feast(0)", x.feast(0), 1);
        due("3: feast(0) again", x.feast(0), 0);
        due("3: feast(1095)", x.feast(1095), 1);
        due("3: feast(-1)", x.feast(-1), NONE);
        due("3: feast(1096)", x.feast(1096), NONE);
        due("3: feast(least)", x.feast(LEAST), NONE);
        due("3: feast(greatest)", x.feast(GREATEST), NONE);
        due("3: count(1)", x.count(1), 2);
        due("3: day is one", x.day(3, 0, 1), 1);
        due("3: day is one", x.day(3, 1095, 1), 1);
        due("3: day is none", x.day(3, 7, 1), 0);
    }

    private static void kinds() {
        ShiftLedger x = new ShiftLedger();
        due("4: kind(1, 3, 5)", x.kind(1, 3, 5), 0);
        due("4: what it was", x.kind(1, 3, 7), 5);
        due("4: for feasts", x.kind(1, 7, 2), 0);
        due("4: for feasts again", x.kind(1, 7, 6), 2);
        due("4: weekday 3", x.day(1, 3, 2), 7);
        due("4: weekday 3 later", x.day(1, 1095 - (1095 - 3) % 7, 2), 7);
        due("4: another weekday", x.day(1, 4, 2), 0);
        due("4: another group", x.day(0, 3, 2), 0);
        x.feast(10);
        due("4: a feast's weekday does not matter", x.day(1, 10, 2), 6);
        due("4: a feast of a group that was told nothing for feasts", x.day(0, 10, 2), 0);
        x.kind(0, 3, 4);
        due("4: a feast of a group that was told of the weekday only", x.day(0, 10, 2), 0);
        due("4: no group", x.kind(6, 0, 0), NONE);
        due("4: no group", x.kind(-1, 0, 0), NONE);
        due("4: no kind", x.kind(0, 0, 8), NONE);
        due("4: no kind", x.kind(0, 0, -1), NONE);
        due("4: weekday", x.kind(0, 8, 0), BAD);
        due("4: weekday", x.kind(0, -1, 0), BAD);
        due("4: weekday", x.kind(0, GREATEST, 0), BAD);
        due("4: NONE goes ahead of BAD", x.kind(0, 8, 8), NONE);
        due("4: NONE goes ahead of BAD", x.kind(LEAST, LEAST, 0), NONE);
        due("4: refusals change nothing", x.day(0, 3, 2), 4);
    }

    private static void rules() {
        ShiftLedger x = new ShiftLedger();
        for (int a = -2; a <= 32; a++) {
            boolean good = a == 1 || a == 5 || a == 10 || a == 15 || a == 30;
            due("5: round " + a, x.rule(7, 0, a, 0), good ? 0 : BAD);
        }
        due("5: round has no b", x.rule(0, 0, 5, 1), BAD);
        due("5: round has no b", x.rule(0, 0, 5, -1), BAD);
        int[] highestB = {0, 2880, 600, 0, 20000};
        for (int what = 1; what <= 4; what++) {
            String rule = "5: rule " + what;
            due(rule, x.rule(0, what, 0, 0), 0);
            due(rule, x.rule(0, what, 2880, highestB[what]), 0);
            due(rule, x.rule(0, what, 2881, 0), BAD);
            due(rule, x.rule(0, what, -1, 0), BAD);
            due(rule, x.rule(0, what, 0, highestB[what] + 1), BAD);
            due(rule, x.rule(0, what, 0, -1), BAD);
            due(rule, x.rule(0, what, GREATEST, 0), BAD);
            due(rule, x.rule(0, what, 0, LEAST), BAD);
        }
        due("5: a frame's a may be above its b", x.rule(0, 1, 5, 4), 0);
        due("5: no kind", x.rule(8, 0, 1, 0), NONE);
        due("5: no kind", x.rule(-1, 0, 1, 0), NONE);
        due("5: no rule", x.rule(0, 5, 1, 0), NONE);
        due("5: no rule", x.rule(0, -1, 1, 0), NONE);
        due("5: NONE goes ahead of BAD", x.rule(8, 0, 2, 0), NONE);
        due("5: NONE goes ahead of BAD", x.rule(0, 5, -1, -1), NONE);
        refusedRulesChangeNothing();
        rulesAreOfTheirKind();
    }

    private static ShiftLedger oneShift(int come, int go) {
        ShiftLedger x = new ShiftLedger();
        x.worker(0, 0);
        x.mark(0, 0, come, 0);
        x.mark(0, go / 1440, go % 1440, 1);
        return x;
    }

    private static void refusedRulesChangeNothing() {
        ShiftLedger x = oneShift(1, 99);
        x.rule(0, 0, 5, 0);
        x.rule(0, 3, 50, 0);
        x.rule(0, 0, 10, 3);
        x.rule(0, 3, 40, 1);
        x.rule(0, 1, 2881, 10);
        due("5: round stays", x.why(0, 0, 1), 90);
        due("5: frame stays", x.why(0, 0, 2), 90);
        due("5: most stays", x.why(0, 0, 4), 50);
        x.rule(0, 3, 0, 0);
        due("5: most taken back", x.why(0, 0, 4), 90);
    }

    private static void rulesAreOfTheirKind() {
        ShiftLedger x = oneShift(0, 100);
        x.rule(3, 3, 10, 0);
        due("5: another kind's rule", x.minutes(0, 0, 0), 100);
        x.kind(0, 0, 3);
        due("5: the kind's rule", x.minutes(0, 0, 0), 10);
        x.feast(0);
        due("5: the rule of feasts", x.minutes(0, 0, 0), 100);
    }

    private static void rates() {
        ShiftLedger x = oneShift(0, 60);
        x.mark(0, 20, 0, 0);
        x.mark(0, 20, 60, 1);
        due("6: no group", x.rate(6, 0, 0), NONE);
        due("6: no group", x.rate(-1, 0, 0), NONE);
        due("6: no day", x.rate(0, 1096, 0), NONE);
        due("6: no day", x.rate(0, -1, 0), NONE);
        due("6: cents", x.rate(0, 0, -1), BAD);
        due("6: cents", x.rate(0, 0, 100001), BAD);
        due("6: NONE goes ahead of BAD", x.rate(0, 1096, -1), NONE);
        due("6: none told", x.cents(0, 0), 0);
        due("6: first", x.rate(0, 1, 500), 1);
        due("6: told for a day behind", x.cents(0, 0), 0);
        due("6: told for a day ahead", x.cents(0, 20), 500);
        due("6: second", x.rate(0, 20, 700), 2);
        due("6: for the day itself", x.cents(0, 20), 700);
        due("6: third", x.rate(0, 19, 800), 3);
        due("6: the latest day holds, not the latest told", x.cents(0, 20), 700);
        due("6: fourth", x.rate(0, 20, 600), 4);
        due("6: of two for a day the one told latest", x.cents(0, 20), 600);
        due("6: fifth, of another group", x.rate(1, 20, 900), 5);
        due("6: another group's", x.cents(0, 20), 600);
        due("6: sixth", x.rate(0, 0, 100000), 6);
        due("6: from day 0 on", x.cents(0, 0), 100000);
        due("6: seventh", x.rate(0, 20, 0), 7);
        due("6: nothing is a rate, too", x.cents(0, 20), 0);
        for (int i = 8; i <= 60; i++) due("6: rate " + i, x.rate(i % 6, 1095, i), i);
        due("6: full", x.rate(5, 0, 1), FULL);
        due("6: BAD goes ahead of FULL", x.rate(5, 0, -1), BAD);
        due("6: NONE goes ahead of FULL", x.rate(7, 0, 1), NONE);
        due("6: count(2)", x.count(2), 60);
    }

    private static void surcharges() {
        ShiftLedger x = new ShiftLedger();
        int[][] bad = {{-1, 0, 0, 0}, {256, 0, 0, 0}, {0, -1, 0, 0}, {0, 1440, 0, 0}, {0, 0, -1, 0}, {0, 0, 1440, 0},
            {0, 0, 0, -1}, {0, 0, 0, 20001}, {LEAST, 0, 0, 0}, {0, GREATEST, 0, 0}};
        for (int[] a : bad) due("7: surcharge", x.surcharge(a[0], a[1], a[2], a[3]), BAD);
        due("7: refused ones are not kept", x.count(3), 0);
        due("7: lowest", x.surcharge(0, 0, 0, 0), 0);
        due("7: highest", x.surcharge(255, 1439, 1439, 20000), 1);
        for (int i = 2; i < 12; i++) due("7: surcharge " + i, x.surcharge(1, i, 2 * i, i), i);
        due("7: full", x.surcharge(1, 0, 1, 1), FULL);
        due("7: BAD goes ahead of FULL", x.surcharge(256, 0, 1, 1), BAD);
        due("7: count(3)", x.count(3), 12);
    }

    private static void exclusions() {
        ShiftLedger x = new ShiftLedger();
        due("8: none there", x.exclude(0, 1), NONE);
        for (int i = 0; i < 12; i++) x.surcharge(255, 0, 0, 100);
        due("8: new", x.exclude(0, 11), 1);
        due("8: again", x.exclude(0, 11), 0);
        due("8: the other way round", x.exclude(11, 0), 0);
        due("8: another pair", x.exclude(11, 1), 1);
        due("8: not of three", x.exclude(0, 1), 1);
        due("8: one", x.exclude(3, 3), BAD);
        due("8: no such", x.exclude(12, 3), NONE);
        due("8: no such", x.exclude(3, 12), NONE);
        due("8: no such", x.exclude(-1, 3), NONE);
        due("8: no such", x.exclude(3, LEAST), NONE);
        due("8: NONE goes ahead of BAD", x.exclude(12, 12), NONE);
    }

    private static void targets() {
        ShiftLedger x = new ShiftLedger();
        x.worker(4, 0);
        due("9: told", x.target(4, 6, 1440), 0);
        due("9: what it was", x.target(4, 6, 480), 1440);
        due("9: weekday 6", x.due(0, 13), 480);
        due("9: weekday 0", x.due(0, 14), 0);
        due("9: no group", x.target(6, 0, 0), NONE);
        due("9: no group", x.target(-1, 0, 0), NONE);
        due("9: weekday", x.target(4, 7, 0), BAD);
        due("9: weekday", x.target(4, -1, 0), BAD);
        due("9: minutes", x.target(4, 6, 1441), BAD);
        due("9: minutes", x.target(4, 6, -1), BAD);
        due("9: NONE goes ahead of BAD", x.target(6, 7, -1), NONE);
        due("9: refusals change nothing", x.target(4, 6, 0), 480);
    }

    private static void limits() {
        ShiftLedger x = new ShiftLedger();
        due("10: widest", x.limits(0, -100000, 100000), 0);
        due("10: one number", x.limits(0, 100000, 100000), 0);
        due("10: one number", x.limits(5, -100000, -100000), 0);
        due("10: no group", x.limits(6, 0, 0), NONE);
        due("10: no group", x.limits(-1, 0, 0), NONE);
        due("10: low", x.limits(0, -100001, 0), BAD);
        due("10: low", x.limits(0, 100001, 100001), BAD);
        due("10: high", x.limits(0, 0, 100001), BAD);
        due("10: high", x.limits(0, -100001, -100001), BAD);
        due("10: high below low", x.limits(0, 1, 0), BAD);
        due("10: NONE goes ahead of BAD", x.limits(6, 1, 0), NONE);
        due("10: within", closedFlex(-50, 200, 0), 100);
        due("10: cut from above", closedFlex(-50, 99, 0), 99);
        due("10: cut from below", closedFlex(-50, 99, 480), -50);
        due("10: raised", closedFlex(150, 200, 0), 150);
        ShiftLedger y = new ShiftLedger();
        y.worker(0, 0);
        y.limits(0, 7, 9);
        y.limits(0, 100001, 100002);
        y.limits(0, 8, 7);
        y.close();
        due("10: refusals change nothing", y.month(0, 0, 2), 7);
    }

    private static void absences() {
        ShiftLedger x = new ShiftLedger();
        due("11: no worker", x.absent(0, 0, 0), NONE);
        x.worker(0, 0);
        x.worker(0, 0);
        for (int weekday = 0; weekday < 7; weekday++) x.target(0, weekday, 100);
        due("11: no worker", x.absent(2, 0, 0), NONE);
        due("11: no worker", x.absent(-1, 0, 0), NONE);
        due("11: no day", x.absent(0, -1, 0), NONE);
        due("11: no day", x.absent(0, 0, 1096), NONE);
        due("11: no day", x.absent(0, 1096, 1096), NONE);
        due("11: to is ahead of from", x.absent(0, 5, 4), BAD);
        due("11: NONE goes ahead of BAD", x.absent(0, 5, -1), NONE);
        due("11: told", x.absent(0, 5, 7), 1);
        due("11: ahead", x.due(0, 4), 100);
        due("11: first", x.due(0, 5), 0);
        due("11: last", x.due(0, 7), 0);
        due("11: behind", x.due(0, 8), 100);
        due("11: another worker", x.due(1, 6), 100);
        due("11: one day", x.absent(0, 9, 9), 2);
        due("11: one day", x.due(0, 9), 0);
        due("11: told again", x.absent(0, 5, 7), 3);
        due("11: another worker's number", x.absent(1, 0, 1095), 1);
        for (int i = 4; i <= 20; i++) due("11: absence " + i, x.absent(0, 100, 100), i);
        due("11: full", x.absent(0, 200, 200), FULL);
        due("11: full ones are not kept", x.due(0, 200), 100);
        due("11: BAD goes ahead of FULL", x.absent(0, 5, 4), BAD);
        due("11: another worker is not full", x.absent(1, 0, 0), 2);
    }
}
