/** Promises 16 to 23: days. */
public final class DaysTest {
    private static final int NONE = -1;
    private static final int LEAST = Integer.MIN_VALUE, GREATEST = Integer.MAX_VALUE;
    private static final int COME = 0, GO = 1, PAUSE = 2, BACK = 3;
    private static final int ROUND = 0, FRAME = 1, OWED = 2, MOST = 3, OVER = 4;
    private static int wrong = 0;

    private static void due(String call, long got, long want) {
        if (got != want) {
            wrong++;
            System.out.println(call + " answered " + got + ", due is " + want);
        }
    }

    public static void main(String[] args) {
        calendar();
        dayRefusals();
        shifts();
        rawClasses();
        refusalsOfDays();
        round();
        frame();
        owed();
        most();
        over();
        allSteps();
        secondDay();
        meeting();
        counting();
        countsRefusals();
        cents();
        centsOfSurcharges();
        halves();
        greatestPay();
        dues();
        System.out.println(wrong == 0 ? "all answers are as due" : wrong + " answers are not as due");
        if (wrong != 0) System.exit(1);
    }

    private static void calendar() {
        ShiftLedger x = new ShiftLedger();
        int[] lengths = {31, 28, 31, 30, 31, 30, 31, 31, 30, 31, 30, 31};
        int day = 0;
        for (int m = 0; m < 36; m++) {
            int length = m == 25 ? 29 : lengths[m % 12];
            due("16: first day of month " + m, x.day(0, day, 0), m);
            due("16: last day of month " + m, x.day(0, day + length - 1, 0), m);
            day += length;
        }
        due("16: days of all", day, 1096);
        due("16: behind all", x.day(0, day, 0), NONE);
    }

    private static void dayRefusals() {
        ShiftLedger x = new ShiftLedger();
        int[][] none = {{-1, 0, 0}, {6, 0, 0}, {GREATEST, 0, 2}, {0, -1, 0}, {0, 1096, 1}, {0, LEAST, 2}, {0, 0, -1}, {0, 0, 3}};
        for (int[] a : none) due("16: no such", x.day(a[0], a[1], a[2]), NONE);
        x.feast(8);
        x.kind(2, 7, 3);
        x.kind(2, 1, 4);
        due("16: feast", x.day(2, 8, 1), 1);
        due("16: no feast", x.day(2, 1, 1), 0);
        due("16: kind of a feast", x.day(2, 8, 2), 3);
        due("16: kind of a weekday", x.day(2, 1, 2), 4);
        due("16: for another group", x.day(1, 8, 2), 0);
    }

    /** A worker of group 0 with marks given as time, sort, time, sort, .. */
    private static ShiftLedger with(int... marks) {
        ShiftLedger x = new ShiftLedger();
        x.worker(0, 0);
        for (int i = 0; i < marks.length; i += 2) x.mark(0, marks[i] / 1440, marks[i] % 1440, marks[i + 1]);
        return x;
    }

    private static void shifts() {
        ShiftLedger x = with(0, COME, 10, GO, 1400, COME, 1500, GO, 2000, COME, 2879, COME, 2961, COME, 2970, GO);
        due("17: end on day 0", x.shifts(0, 0, 0), 2);
        due("17: gaps on day 0", x.shifts(0, 0, 1), 0);
        due("17: end on day 1", x.shifts(0, 1, 0), 0);
        due("17: gaps on day 1", x.shifts(0, 1, 1), 1);
        due("17: end on day 2", x.shifts(0, 2, 0), 1);
        due("17: gaps on day 2", x.shifts(0, 2, 1), 0);
        due("17: none on day 3", x.shifts(0, 3, 0), 0);
        due("17: what", x.shifts(0, 0, 2), NONE);
        due("17: what", x.shifts(0, 0, -1), NONE);
        due("17: no day", x.shifts(0, 1096, 0), NONE);
        due("17: no day", x.shifts(0, -1, 0), NONE);
        due("17: no worker", x.shifts(1, 0, 0), NONE);
        ShiftLedger y = with(1095 * 1440, COME, 1095 * 1440 + 1439, COME);
        due("17: gaps on the last day", y.shifts(0, 1095, 1), 2);
    }

    /** The classes from one minute to ahead of another are all one. */
    private static void classes(String which, ShiftLedger x, int from, int to, int want) {
        for (int m = from; m < to; m++) due("18: " + which + ", minute " + m, x.minute(0, 0, m), want);
    }

    private static void amounts(String which, ShiftLedger x, int... want) {
        for (int i = 0; i < want.length; i++) due("19: " + which + ", minutes " + i, x.minutes(0, 0, i), want[i]);
    }

    private static void steps(String which, ShiftLedger x, int... want) {
        for (int k = 0; k < want.length; k++) due("20: " + which + ", step " + k, x.why(0, 0, k), want[k]);
    }

    private static void rawClasses() {
        ShiftLedger x = with(100, COME, 110, PAUSE, 113, BACK, 120, PAUSE, 125, GO, 130, COME, 133, GO, 140, COME, 150, PAUSE);
        classes("ahead", x, 95, 100, 0);
        classes("part", x, 100, 110, 7);
        classes("rest", x, 110, 113, 1);
        classes("part", x, 113, 120, 7);
        classes("from a pause to the go", x, 120, 125, 0);
        classes("between shifts", x, 125, 130, 0);
        classes("part", x, 130, 133, 7);
        classes("a gap", x, 133, 160, 0);
        amounts("raw", x, 20, 3, 0, 0, 0, 0, 0, 20);
        steps("raw", x, 20, 20, 20, 20, 20);
        ShiftLedger y = with(100, COME, 110, PAUSE, 111, COME, 115, PAUSE, 120, BACK, 121, COME, 122, BACK, 130, GO);
        classes("doubles", y, 100, 110, 7);
        classes("doubles", y, 110, 120, 1);
        classes("doubles", y, 120, 130, 7);
    }

    private static void refusalsOfDays() {
        ShiftLedger x = with(0, COME, 100, GO);
        int[][] noDays = {{1, 0}, {-1, 0}, {LEAST, 0}, {0, -1}, {0, 1096}, {0, GREATEST}};
        for (int[] a : noDays) {
            due("18: no such", x.minute(a[0], a[1], 0), NONE);
            due("19: no such", x.minutes(a[0], a[1], 0), NONE);
            due("20: no such", x.why(a[0], a[1], 0), NONE);
            due("22: no such", x.cents(a[0], a[1]), NONE);
            due("23: no such", x.due(a[0], a[1]), NONE);
        }
        due("18: minute", x.minute(0, 0, -1), NONE);
        due("18: minute", x.minute(0, 0, 2880), NONE);
        due("18: last minute", x.minute(0, 0, 2879), 0);
        due("18: first minute", x.minute(0, 0, 0), 7);
        due("19: class", x.minutes(0, 0, 8), NONE);
        due("19: class", x.minutes(0, 0, -1), NONE);
        due("20: k", x.why(0, 0, 5), NONE);
        due("20: k", x.why(0, 0, -1), NONE);
    }

    private static void round() {
        ShiftLedger x = with(101, COME, 150, PAUSE, 158, BACK, 219, GO);
        x.rule(0, ROUND, 10, 0);
        classes("ahead of the come rounded up", x, 101, 110, 2);
        classes("behind it", x, 110, 150, 7);
        classes("rests are not rounded", x, 150, 158, 1);
        classes("parts in between are not rounded", x, 158, 210, 7);
        classes("from the end rounded down", x, 210, 219, 2);
        classes("behind", x, 219, 222, 0);
        steps("round", x, 110, 92, 92, 92, 92);
        x.rule(0, ROUND, 1, 0);
        steps("no round", x, 110, 110, 110, 110, 110);
        ShiftLedger exact = with(120, COME, 180, GO);
        exact.rule(0, ROUND, 30, 0);
        amounts("multiples stay", exact, 60, 0, 0);
        ShiftLedger small = with(121, COME, 149, GO, 179, COME, 181, GO);
        small.rule(0, ROUND, 30, 0);
        amounts("all go", small, 0, 0, 30);
        ShiftLedger paused = with(100, COME, 118, PAUSE, 126, GO);
        paused.rule(0, ROUND, 5, 0);
        classes("the end is the pause", paused, 115, 118, 2);
        classes("the end is the pause", paused, 118, 126, 0);
        due("20: the end is the pause", paused.why(0, 0, 1), 15);
        ShiftLedger gone = with(100, COME, 102, PAUSE, 104, BACK, 120, GO);
        gone.rule(0, ROUND, 15, 0);
        classes("a part ahead of it", gone, 100, 102, 2);
        classes("its rest stays", gone, 102, 104, 1);
        classes("a part ahead of it", gone, 104, 105, 2);
        classes("there", gone, 105, 120, 7);
    }

    private static void frame() {
        ShiftLedger x = with(100, COME, 200, GO);
        x.rule(0, FRAME, 110, 190);
        classes("below a", x, 100, 110, 3);
        classes("from a to b", x, 110, 190, 7);
        classes("from b on", x, 190, 200, 3);
        steps("frame", x, 100, 100, 80, 80, 80);
        x.rule(0, FRAME, 110, 0);
        amounts("no frame", x, 100, 0, 0, 0);
        x.rule(0, FRAME, 150, 150);
        amounts("an empty frame", x, 0, 0, 0, 100);
        x.rule(0, FRAME, 0, 101);
        amounts("a minute", x, 1, 0, 0, 99);
        x.rule(0, FRAME, 199, 2880);
        amounts("a minute", x, 1, 0, 0, 99);
        ShiftLedger early = with(0, COME, 10, GO);
        early.rule(0, FRAME, 2, 10);
        amounts("from minute 0 on", early, 8, 0, 0, 2);
        early.rule(0, FRAME, 0, 1);
        amounts("minute 0 alone", early, 1, 0, 0, 9);
        ShiftLedger rest = with(100, COME, 120, PAUSE, 140, BACK, 160, GO);
        rest.rule(0, FRAME, 130, 135);
        classes("rests stay", rest, 120, 140, 1);
        due("20: rests stay", rest.why(0, 0, 2), 0);
    }

    private static void owed() {
        ShiftLedger x = with(100, COME, 200, PAUSE, 210, BACK, 300, GO);
        x.rule(0, OWED, 189, 30);
        classes("the latest go", x, 280, 300, 4);
        classes("the others stay", x, 210, 280, 7);
        steps("owed", x, 190, 190, 190, 170, 170);
        x.rule(0, OWED, 190, 30);
        steps("not more than a", x, 190, 190, 190, 190, 190);
        x.rule(0, OWED, 0, 10);
        steps("rests enough", x, 190, 190, 190, 190, 190);
        x.rule(0, OWED, 0, 11);
        steps("rests one too few", x, 190, 190, 190, 189, 189);
        x.rule(0, OWED, 0, 110);
        classes("over a rest", x, 200, 210, 1);
        classes("over a rest", x, 210, 300, 4);
        classes("over a rest", x, 190, 200, 4);
        classes("over a rest", x, 189, 190, 7);
        x.rule(0, OWED, 0, 600);
        amounts("all, if there are less", x, 0, 10, 0, 0, 190);
        x.rule(0, OWED, 0, 0);
        amounts("none", x, 190, 10, 0, 0, 0);
        ShiftLedger two = with(100, COME, 110, PAUSE, 115, BACK, 120, GO, 200, COME, 210, PAUSE, 215, BACK, 220, GO);
        two.rule(0, OWED, 0, 12);
        due("20: rests of all shifts of the day", two.why(0, 0, 3), 28);
        two.rule(0, FRAME, 0, 120);
        two.rule(0, OWED, 15, 12);
        due("20: what is there behind the frame", two.why(0, 0, 3), 15);
        two.rule(0, OWED, 14, 12);
        due("20: what is there behind the frame", two.why(0, 0, 3), 13);
    }

    private static void most() {
        ShiftLedger x = with(100, COME, 200, PAUSE, 210, BACK, 300, GO);
        x.rule(0, MOST, 120, 0);
        classes("the first ones stay", x, 210, 230, 7);
        classes("those behind go", x, 230, 300, 5);
        steps("most", x, 190, 190, 190, 190, 120);
        x.rule(0, MOST, 190, 0);
        amounts("as many as there are", x, 190, 10, 0, 0, 0, 0);
        x.rule(0, MOST, 0, 0);
        amounts("none", x, 190, 10, 0, 0, 0, 0);
        x.rule(0, MOST, 1, 0);
        classes("one", x, 100, 101, 7);
        classes("one", x, 101, 102, 5);
    }

    private static void over() {
        ShiftLedger x = with(100, COME, 200, PAUSE, 210, BACK, 300, GO);
        x.rule(0, OVER, 95, 0);
        classes("the first ones", x, 100, 195, 7);
        classes("overtime", x, 195, 200, 6);
        classes("rest", x, 200, 210, 1);
        classes("overtime", x, 210, 300, 6);
        amounts("over", x, 190, 10, 0, 0, 0, 0, 95, 95);
        steps("overtime is there", x, 190, 190, 190, 190, 190);
        x.rule(0, OVER, 0, 100);
        amounts("none", x, 190, 10, 0, 0, 0, 0, 0, 190);
    }

    private static void allSteps() {
        ShiftLedger x = with(97, COME, 200, PAUSE, 210, BACK, 303, GO);
        x.rule(0, OVER, 100, 0);
        x.rule(0, MOST, 150, 0);
        x.rule(0, OWED, 100, 15);
        x.rule(0, FRAME, 110, 290);
        x.rule(0, ROUND, 5, 0);
        steps("all", x, 196, 190, 170, 165, 150);
        amounts("all", x, 150, 10, 6, 20, 5, 15, 50, 100);
        classes("round", x, 97, 100, 2);
        classes("frame", x, 100, 110, 3);
        classes("there", x, 110, 200, 7);
        classes("there", x, 210, 220, 7);
        classes("over", x, 220, 270, 6);
        classes("most", x, 270, 285, 5);
        classes("owed", x, 285, 290, 4);
        classes("frame", x, 290, 300, 3);
        classes("round", x, 300, 303, 2);
        classes("behind", x, 303, 310, 0);
    }

    private static void secondDay() {
        ShiftLedger x = with(1439, COME, 1439 + 960, GO, 2400, COME, 2500, GO);
        due("18: the last minute that can be", x.minute(0, 0, 2398), 7);
        due("18: behind it", x.minute(0, 0, 2399), 0);
        due("18: another day's shift", x.minute(0, 0, 2400), 0);
        due("18: not of the next day", x.minute(0, 1, 0), 0);
        due("18: the next day's shift", x.minute(0, 1, 960), 7);
        due("19: the day it began", x.minutes(0, 0, 0), 960);
        due("19: the next day", x.minutes(0, 1, 0), 100);
        x.kind(0, 1, 1);
        x.rule(1, MOST, 5, 0);
        due("19: the kind of the day it began", x.minutes(0, 0, 0), 960);
        due("19: the kind of the next day", x.minutes(0, 1, 0), 5);
        x.rule(0, FRAME, 0, 1440);
        due("19: a frame to midnight", x.minutes(0, 0, 0), 1);
        due("18: sheets are not mixed", x.minute(0, 2, 1439), 0);
    }

    private static void meeting() {
        ShiftLedger x = with(0, COME, 960, GO, 1400, COME, 1400 + 960, GO);
        x.surcharge(1, 100, 200, 10);
        x.surcharge(1, 200, 100, 10);
        x.surcharge(1, 300, 300, 10);
        x.surcharge(2, 0, 0, 10);
        x.surcharge(0, 0, 0, 10);
        x.surcharge(1, 1420, 0, 10);
        int[][] want = {{99, 0, 1}, {100, 1, 0}, {199, 1, 0}, {200, 0, 1}, {0, 0, 1}, {1439, 0, 1}, {1440, 0, 1},
            {1539, 0, 1}, {1540, 1, 0}, {1639, 1, 0}, {1640, 0, 1}, {959, 0, 1}};
        for (int[] a : want) {
            due("21: from below to, minute " + a[0], x.counts(0, 0, a[0], 0, 1), a[1]);
            due("21: from above to, minute " + a[0], x.counts(0, 0, a[0], 1, 1), a[2]);
            due("21: from equal to to, minute " + a[0], x.counts(0, 0, a[0], 2, 1), 1);
            due("21: another kind, minute " + a[0], x.counts(0, 0, a[0], 3, 1), 0);
            due("21: no kind, minute " + a[0], x.counts(0, 0, a[0], 4, 1), 0);
        }
        due("21: to midnight", x.counts(0, 0, 1419, 5, 1), 0);
        due("21: to midnight", x.counts(0, 0, 1420, 5, 1), 1);
        due("21: to midnight", x.counts(0, 0, 1439, 5, 1), 1);
        due("21: to midnight", x.counts(0, 0, 1440, 5, 1), 0);
        due("21: not paid", x.counts(0, 0, 960, 2, 1), 0);
        due("21: not paid", x.counts(0, 0, 2400, 2, 1), 0);
        x.kind(0, 0, 1);
        due("21: the day's kind", x.counts(0, 0, 0, 3, 1), 1);
        due("21: the day's kind, not the next one's", x.counts(0, 0, 1440, 3, 1), 1);
        due("21: the day's kind", x.counts(0, 0, 0, 2, 1), 0);
        x.rule(1, OVER, 10, 0);
        due("21: overtime", x.counts(0, 0, 20, 3, 1), 1);
        x.rule(1, MOST, 10, 0);
        due("21: it went", x.counts(0, 0, 20, 3, 1), 0);
        x.kind(0, 0, 7);
        x.surcharge(128, 0, 0, 10);
        due("21: kind 7", x.counts(0, 0, 0, 6, 0), 1);
    }

    private static void counting() {
        ShiftLedger x = with(0, COME, 900, GO);
        x.surcharge(1, 0, 0, 100);
        x.surcharge(1, 0, 600, 200);
        x.surcharge(1, 0, 300, 300);
        x.surcharge(1, 0, 0, 100);
        due("21: none excluded", x.counts(0, 0, 100, 0, 0), 1);
        x.exclude(0, 1);
        x.exclude(2, 1);
        due("21: greater p", x.counts(0, 0, 100, 2, 0), 1);
        due("21: smaller p", x.counts(0, 0, 100, 1, 0), 0);
        due("21: one that does not count still excludes", x.counts(0, 0, 100, 0, 0), 0);
        due("21: it meets all the same", x.counts(0, 0, 100, 0, 1), 1);
        due("21: not excluded", x.counts(0, 0, 100, 3, 0), 1);
        due("21: the greatest does not meet", x.counts(0, 0, 300, 1, 0), 1);
        due("21: the greatest does not meet", x.counts(0, 0, 300, 0, 0), 0);
        due("21: the greatest does not meet", x.counts(0, 0, 300, 2, 0), 0);
        due("21: it alone meets", x.counts(0, 0, 600, 0, 0), 1);
        x.exclude(3, 0);
        due("21: the same p, lower number", x.counts(0, 0, 600, 0, 0), 1);
        due("21: the same p, greater number", x.counts(0, 0, 600, 3, 0), 0);
        due("21: beaten by one that does not count", x.counts(0, 0, 100, 3, 0), 0);
    }

    private static void countsRefusals() {
        ShiftLedger x = with(0, COME, 900, GO);
        due("21: no surcharge", x.counts(0, 0, 0, 0, 0), NONE);
        x.surcharge(1, 0, 0, 100);
        int[][] none = {{1, 0, 0, 0, 0}, {-1, 0, 0, 0, 0}, {0, -1, 0, 0, 0}, {0, 1096, 0, 0, 0}, {0, 0, -1, 0, 0},
            {0, 0, 2880, 0, 0}, {0, 0, 0, 1, 0}, {0, 0, 0, -1, 0}, {0, 0, 0, 0, 2}, {0, 0, 0, 0, -1}, {0, 0, 0, GREATEST, 0}};
        for (int[] a : none) due("21: no such", x.counts(a[0], a[1], a[2], a[3], a[4]), NONE);
        due("21: last minute", x.counts(0, 0, 2879, 0, 1), 0);
        due("21: first minute", x.counts(0, 0, 0, 0, 1), 1);
    }

    private static void cents() {
        ShiftLedger x = with(0, COME, 100, GO, 200, COME, 300, GO);
        due("22: no rate", x.cents(0, 0), 0);
        x.rate(0, 0, 1999);
        due("22: rounded once a day", x.cents(0, 0), 6663);
        x.rule(0, OVER, 150, 5000);
        due("22: overtime", x.cents(0, 0), 7496);
        x.rule(0, MOST, 60, 0);
        due("22: what went is not paid", x.cents(0, 0), 1999);
        due("22: another day", x.cents(0, 1), 0);
        ShiftLedger night = with(1400, COME, 1500, GO);
        night.rate(0, 1, 6000);
        due("22: the rate of the day it began", night.cents(0, 0), 0);
        due("22: nothing of the next day", night.cents(0, 1), 0);
        night.rate(0, 0, 3000);
        due("22: the rate of the day it began", night.cents(0, 0), 5000);
    }

    private static void centsOfSurcharges() {
        ShiftLedger x = with(1380, COME, 1500, GO);
        x.rate(0, 0, 6000);
        due("22: plain", x.cents(0, 0), 12000);
        x.surcharge(1, 1410, 10, 2500);
        due("22: 40 minutes at 25 more", x.cents(0, 0), 13000);
        x.surcharge(1, 0, 1439, 5000);
        due("22: 119 minutes at 50 more", x.cents(0, 0), 13000 + 5950);
        x.exclude(0, 1);
        due("22: 119 at 50, one at 25 more", x.cents(0, 0), 12000 + 5950 + 25);
        x.surcharge(2, 0, 0, 5000);
        due("22: of another kind", x.cents(0, 0), 12000 + 5950 + 25);
        x.rule(0, OVER, 110, 10000);
        due("22: ten of overtime", x.cents(0, 0), 12000 + 5950 + 25 + 1000);
        x.surcharge(1, 0, 0, 0);
        due("22: nothing more", x.cents(0, 0), 12000 + 5950 + 25 + 1000);
    }

    private static void halves() {
        int[] rates = {0, 1, 2, 3, 4, 5, 6, 7};
        int[] want = {0, 0, 1, 2, 2, 2, 3, 4};
        ShiftLedger x = with(0, COME, 30, GO);
        for (int i = 0; i < rates.length; i++) {
            x.rate(0, 0, rates[i]);
            due("22: half of " + rates[i], x.cents(0, 0), want[i]);
        }
        ShiftLedger y = with(0, COME, 29, GO, 40, COME, 71, GO);
        y.rate(0, 0, 1);
        due("22: 60 minutes of two shifts", y.cents(0, 0), 1);
        ShiftLedger below = with(0, COME, 89, GO);
        below.rate(0, 0, 1);
        due("22: 89 of 60", below.cents(0, 0), 1);
        ShiftLedger half = with(0, COME, 90, GO);
        half.rate(0, 0, 1);
        due("22: 90 of 60, to the even one", half.cents(0, 0), 2);
        ShiftLedger low = with(0, COME, 150, GO);
        low.rate(0, 0, 1);
        due("22: 150 of 60, to the even one", low.cents(0, 0), 2);
        ShiftLedger above = with(0, COME, 151, GO);
        above.rate(0, 0, 1);
        due("22: 151 of 60", above.cents(0, 0), 3);
    }

    private static void greatestPay() {
        ShiftLedger x = with(0, COME, 960, GO, 1439, COME, 1439 + 960, GO);
        x.rate(0, 0, 100000);
        for (int i = 0; i < 12; i++) x.surcharge(255, 0, 0, 20000);
        x.rule(0, OVER, 1, 20000);
        due("22: the greatest", x.cents(0, 0), (1919L * 270000 + 250000) * 100000 / 600000 + 1);
    }

    private static void dues() {
        ShiftLedger x = new ShiftLedger();
        x.worker(3, 10);
        for (int weekday = 0; weekday < 7; weekday++) x.target(3, weekday, 100 + weekday);
        for (int day = 10; day < 24; day++) due("23: day " + day, x.due(0, day), 100 + day % 7);
        due("23: ahead of first", x.due(0, 9), 0);
        x.feast(11);
        due("23: feast", x.due(0, 11), 0);
        due("23: behind the feast", x.due(0, 12), 105);
        x.absent(0, 13, 14);
        due("23: absent", x.due(0, 13), 0);
        due("23: absent", x.due(0, 14), 0);
        due("23: back", x.due(0, 15), 101);
        due("23: the last day", x.due(0, 1095), 100 + 1095 % 7);
    }
}
