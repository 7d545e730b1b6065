/** Promises 24 to 28: months, and what is booked behind closed ones. */
public final class MonthsTest {
    private static final int NONE = -1, STATE = -3;
    private static final long NO_MONTH = Long.MIN_VALUE;
    private static final int COME = 0, GO = 1, PAUSE = 2, BACK = 3;
    private static final int PAID = 0, CENTS = 1, FLEX = 2, MINUTES_BOOKED = 3, CENTS_BOOKED = 4;
    private static int wrong = 0;

    private static void due(String call, long got, long want) {
        if (got != want) {
            wrong++;
            System.out.println(call + " answered " + got + ", due is " + want);
        }
    }

    public static void main(String[] args) {
        closing();
        gapsKeepOpen();
        opening();
        refusals();
        openMonths();
        flexIsHandedOn();
        flexIsCutOnce();
        closedStays();
        bookedLate();
        bookedByAnOpenMark();
        bookedByOneThatGoes();
        bookedByWhatIsToldNow();
        bookedFarBehind();
        bookedForTheWorkerAlone();
        bookedOnTwoDays();
        lateWorkers();
        sums();
        counts();
        System.out.println(wrong == 0 ? "all answers are as due" : wrong + " answers are not as due");
        if (wrong != 0) System.exit(1);
    }

    /** A worker of group 0, at 6000 cents an hour, with marks given as time, sort, time, sort, .. */
    private static ShiftLedger with(int... marks) {
        ShiftLedger x = new ShiftLedger();
        x.worker(0, 0);
        x.rate(0, 0, 6000);
        x.limits(0, -100000, 100000);
        for (int i = 0; i < marks.length; i += 2) x.mark(0, marks[i] / 1440, marks[i] % 1440, marks[i + 1]);
        return x;
    }

    private static void says(String which, ShiftLedger x, int m, long... want) {
        for (int what = 0; what < want.length; what++) {
            due(which + ", month " + m + ", what " + what, x.month(0, m, what), want[what]);
        }
    }

    private static void closing() {
        ShiftLedger x = new ShiftLedger();
        for (int m = 0; m < 36; m++) due("24: month " + m, x.close(), m);
        due("24: none is open", x.close(), STATE);
        due("24: none is open", x.close(), STATE);
        due("25: none is open", x.open(), 36);
    }

    private static void gapsKeepOpen() {
        ShiftLedger x = with(30 * 1440 + 1439, COME);
        x.worker(1, 0);
        due("24: a gap on the last day", x.close(), STATE);
        due("25: it stays open", x.open(), 0);
        x.mark(0, 31, 100, GO);
        due("24: it ends in the next month", x.close(), 0);
        x.mark(1, 59, 0, COME);
        due("24: a gap of the month behind", x.close(), 1);
        due("24: another worker's gap", x.close(), STATE);
        x.mark(1, 59, 960, GO);
        due("24: it ends", x.close(), 2);
        x.late(0, 0, 0, COME);
        due("17: a gap of a closed month", x.shifts(0, 0, 1), 1);
        due("24: gaps of closed months do not matter", x.close(), 3);
        ShiftLedger y = with(0, GO, 1, PAUSE, 2, BACK);
        due("24: doubles are no gaps", y.close(), 0);
    }

    private static void opening() {
        ShiftLedger x = new ShiftLedger();
        due("25: at first", x.open(), 0);
        x.close();
        due("25: then", x.open(), 1);
        x.close();
        due("25: then", x.open(), 2);
    }

    private static void refusals() {
        ShiftLedger x = new ShiftLedger();
        due("26: no worker", x.month(0, 0, 0), NO_MONTH);
        x.worker(0, 0);
        int[][] none = {{1, 0, 0}, {-1, 0, 0}, {0, -1, 0}, {0, 36, 0}, {0, 0, -1}, {0, 0, 5},
            {0, Integer.MAX_VALUE, 0}, {Integer.MIN_VALUE, 0, 0}, {0, 0, Integer.MAX_VALUE}};
        for (int[] a : none) due("26: no such", x.month(a[0], a[1], a[2]), NO_MONTH);
        for (int what = 0; what < 5; what++) due("26: the last month", x.month(0, 35, what), 0);
        int[][] noSums = {{6, 0, 0}, {-1, 0, 0}, {0, -1, 0}, {0, 36, 0}, {0, 0, -1}, {0, 0, 2}, {0, Integer.MIN_VALUE, 0}};
        for (int[] a : noSums) due("27: no such", x.sum(a[0], a[1], a[2]), NO_MONTH);
        due("27: a group without workers", x.sum(5, 35, 1), 0);
        due("28: no such", x.count(-1), NONE);
        due("28: no such", x.count(5), NONE);
        due("28: no such", x.count(Integer.MAX_VALUE), NONE);
    }

    private static void openMonths() {
        ShiftLedger x = with(0, COME, 100, GO, 30 * 1440 + 1400, COME, 31 * 1440 + 100, GO, 31 * 1440 + 200, COME,
            31 * 1440 + 207, GO);
        says("26: open", x, 0, 240, 24000, 240, 0, 0);
        says("26: open", x, 1, 7, 700, 247, 0, 0);
        says("26: open", x, 2, 0, 0, 247, 0, 0);
        says("26: open", x, 35, 0, 0, 247, 0, 0);
        x.target(0, 0, 60);
        says("26: less due", x, 0, 240, 24000, 240 - 300, 0, 0);
        says("26: less due", x, 1, 7, 700, 247 - 540, 0, 0);
        says("26: less due", x, 35, 0, 0, 247 - 60 * 157, 0, 0);
        x.feast(7);
        x.absent(0, 14, 21);
        says("26: less due", x, 0, 240, 24000, 240 - 120, 0, 0);
        x.rate(0, 5, 3);
        says("26: rounded by the day", x, 1, 7, 0, 247 - 360, 0, 0);
        x.mark(0, 32, 0, COME);
        says("26: a gap is not paid", x, 1, 7, 0, 247 - 360, 0, 0);
    }

    private static void flexIsHandedOn() {
        ShiftLedger x = with(0, COME, 100, GO, 31 * 1440, COME, 31 * 1440 + 50, GO);
        x.limits(0, -10, 10);
        says("26: open ones are not cut", x, 1, 50, 5000, 150, 0, 0);
        x.close();
        says("26: cut", x, 0, 100, 10000, 10, 0, 0);
        says("26: from what was cut", x, 1, 50, 5000, 60, 0, 0);
        says("26: from what was cut", x, 2, 0, 0, 60, 0, 0);
        x.target(0, 3, 1000);
        x.close();
        says("26: cut from below", x, 1, 50, 5000, -10, 0, 0);
        says("26: handed on", x, 2, 0, 0, -5010, 0, 0);
    }

    private static void flexIsCutOnce() {
        ShiftLedger x = with(0, COME, 100, GO);
        x.close();
        x.limits(0, 0, 5);
        says("26: limits told later", x, 0, 100, 10000, 100, 0, 0);
        says("26: limits of the open one", x, 1, 0, 0, 100, 0, 0);
        x.close();
        says("26: limits at closing", x, 1, 0, 0, 5, 0, 0);
        ShiftLedger y = new ShiftLedger();
        y.worker(1, 0);
        y.worker(2, 0);
        y.limits(2, 30, 40);
        y.close();
        due("26: limits of its group", y.month(0, 0, FLEX), 0);
        due("26: limits of its group", y.month(1, 0, FLEX), 30);
    }

    private static void closedStays() {
        ShiftLedger x = with(0, COME, 100, GO, 1440, COME, 1540, GO);
        x.target(0, 0, 10);
        x.close();
        says("26: closed", x, 0, 200, 20000, 150, 0, 0);
        x.rule(0, 3, 5, 0);
        x.rate(0, 0, 12000);
        x.target(0, 0, 20);
        x.feast(7);
        x.absent(0, 0, 30);
        x.kind(0, 1, 3);
        x.surcharge(255, 0, 0, 20000);
        says("26: it stays as it was", x, 0, 200, 20000, 150, 0, 0);
        says("26: nothing is booked for what is told", x, 1, 0, 0, 150 - 80, 0, 0);
        due("27: it stays as it was", x.sum(0, 0, CENTS), 20000);
        due("22: the day is by what is told now", x.cents(0, 0), 3000);
    }

    private static void bookedLate() {
        ShiftLedger x = with(0, COME, 100, GO);
        x.close();
        x.late(0, 0, 200, COME);
        says("26: a gap books nothing", x, 1, 0, 0, 100, 0, 0);
        x.late(0, 0, 260, GO);
        says("26: booked", x, 1, 60, 6000, 160, 60, 6000);
        says("26: the closed one stays", x, 0, 100, 10000, 100, 0, 0);
        x.late(0, 0, 90, PAUSE);
        says("26: less", x, 1, 50, 5000, 150, 50, 5000);
        x.late(0, 0, 95, BACK);
        says("26: more again", x, 1, 55, 5500, 155, 55, 5500);
        x.close();
        says("26: closed with what is booked", x, 1, 55, 5500, 155, 55, 5500);
        x.late(0, 31, 0, COME);
        x.late(0, 0, 40, GO);
        says("26: closed with what is booked", x, 1, 55, 5500, 155, 55, 5500);
        says("26: for the first open one", x, 2, -55, -5500, 100, -55, -5500);
        says("26: not for those behind", x, 3, 0, 0, 100, 0, 0);
        due("27: booked ones too", x.sum(0, 2, PAID), -55);
        due("27: booked ones too", x.sum(0, 2, CENTS), -5500);
    }

    private static void bookedByAnOpenMark() {
        ShiftLedger x = with(30 * 1440 + 1340, COME, 31 * 1440 + 200, GO);
        x.close();
        says("26: over the end", x, 0, 300, 30000, 300, 0, 0);
        x.mark(0, 31, 100, GO);
        says("26: an earlier end", x, 1, -100, -10000, 200, -100, -10000);
        x.mark(0, 31, 50, PAUSE);
        says("26: a pause ahead of it", x, 1, -150, -15000, 150, -150, -15000);
        x.mark(0, 31, 70, BACK);
        says("26: and back", x, 1, -120, -12000, 180, -120, -12000);
        x.mark(0, 32, 0, COME);
        x.mark(0, 32, 10, GO);
        says("26: of its own", x, 1, -110, -11000, 190, -120, -12000);
        x.mark(0, 300, 0, COME);
        x.mark(0, 300, 10, GO);
        says("26: a month far behind", x, 1, -110, -11000, 190, -120, -12000);
    }

    private static void bookedByOneThatGoes() {
        ShiftLedger x = with(30 * 1440 + 1340, COME, 31 * 1440 + 200, GO, 31 * 1440 + 300, GO);
        x.close();
        x.unmark(0, 31, 200);
        says("26: a later end", x, 1, 100, 10000, 400, 100, 10000);
        x.unmark(0, 31, 300);
        says("26: no end", x, 1, -300, -30000, 0, -300, -30000);
        x.mark(0, 31, 200, GO);
        says("26: as it was", x, 1, 0, 0, 300, 0, 0);
    }

    private static void bookedByWhatIsToldNow() {
        ShiftLedger x = with(0, COME, 100, GO, 31 * 1440, COME, 31 * 1440 + 1, GO);
        x.close();
        x.rate(0, 0, 12000);
        x.rule(0, 3, 110, 0);
        x.late(0, 0, 200, COME);
        x.late(0, 0, 250, GO);
        says("26: by what is told now", x, 1, 11, 2200, 111, 10, 2000);
        ShiftLedger y = with(0, COME, 30, GO);
        y.rate(0, 0, 1);
        y.close();
        y.late(0, 0, 40, COME);
        y.late(0, 0, 70, GO);
        says("26: 0 cents and a half, then one", y, 1, 30, 1, 60, 30, 1);
        y.late(0, 2, 0, COME);
        y.late(0, 2, 30, GO);
        says("26: rounded by the day", y, 1, 60, 1, 90, 60, 1);
    }

    private static void bookedFarBehind() {
        // The come that is met in is double; a go ahead of it makes it begin a shift, and so on for all behind.
        ShiftLedger x = with(100, COME, 1000, COME, 1500, COME, 2000, COME, 2900, COME, 3000, GO);
        due("15: in pairs", x.marked(0, 2, 2), 2);
        x.unmark(0, 0, 100);
        x.unmark(0, 0, 1000);
        due("15: from another one on", x.marked(0, 0, 2), 2);
        ShiftLedger y = with(1000, COME, 1900, GO, 1950, COME, 2800, GO, 31 * 1440, GO);
        y.close();
        says("26: closed", y, 0, 1750, 175000, 1750, 0, 0);
        y.late(0, 0, 900, COME);
        // 900 to 1900 is too long: the go at 1900 is double then.
        says("26: a gap of the first day", y, 1, -900, -90000, 850, -900, -90000);
        y.late(0, 0, 901, GO);
        says("26: a minute more", y, 1, 1, 100, 1751, 1, 100);
    }

    private static void bookedForTheWorkerAlone() {
        ShiftLedger x = with(0, COME, 100, GO);
        x.worker(0, 0);
        x.close();
        x.late(1, 0, 0, COME);
        x.late(1, 0, 10, GO);
        due("26: another worker", x.month(0, 1, MINUTES_BOOKED), 0);
        due("26: another worker", x.month(0, 1, CENTS_BOOKED), 0);
        due("26: the worker", x.month(1, 1, MINUTES_BOOKED), 10);
        due("26: the worker", x.month(1, 1, CENTS_BOOKED), 1000);
        due("27: both", x.sum(0, 1, PAID), 10);
    }

    private static void bookedOnTwoDays() {
        ShiftLedger x = with(1000, COME, 1900, GO, 2000, COME, 2500, GO, 30 * 1440 + 1000, COME, 31 * 1440, GO);
        x.close();
        due("26: closed", x.month(0, 0, PAID), 900 + 500 + 440);
        // The shift of day 0 is a gap now, 1900 is double, and that of day 1 stays.
        x.late(0, 0, 930, COME);
        due("26: a day less", x.month(0, 1, MINUTES_BOOKED), -900);
        x.late(0, 1, 400, GO);
        due("26: the first day ends, the second stays", x.month(0, 1, MINUTES_BOOKED), 910 - 900);
        due("26: cents", x.month(0, 1, CENTS_BOOKED), 1000);
        x.mark(0, 31, 1, GO);
        due("26: a double books nothing", x.month(0, 1, MINUTES_BOOKED), 10);
        x.unmark(0, 31, 0);
        due("26: a minute more on the last day", x.month(0, 1, MINUTES_BOOKED), 11);
    }

    private static void lateWorkers() {
        ShiftLedger x = new ShiftLedger();
        x.limits(0, 5, 10);
        x.target(0, 0, 480);
        x.close();
        x.worker(0, 0);
        says("26: closed ahead of the worker", x, 0, 0, 0, 0, 0, 0);
        says("26: open", x, 1, 0, 0, -1920, 0, 0);
        x.late(0, 3, 0, COME);
        x.late(0, 3, 60, GO);
        says("26: closed ahead of the worker", x, 0, 0, 0, 0, 0, 0);
        says("26: booked", x, 1, 60, 0, -1860, 60, 0);
        ShiftLedger y = new ShiftLedger();
        y.worker(0, 40);
        y.target(0, 0, 100);
        y.limits(0, -9999, 0);
        says("26: ahead of first", y, 0, 0, 0, 0, 0, 0);
        says("26: from first on", y, 1, 0, 0, -300, 0, 0);
    }

    private static void sums() {
        ShiftLedger x = new ShiftLedger();
        x.rate(0, 0, 6000);
        x.rate(1, 0, 1);
        for (int w = 0; w < 4; w++) {
            x.worker(w % 2, 0);
            x.mark(w, 0, 0, COME);
            x.mark(w, 0, 10 * (w + 1), GO);
        }
        due("27: group 0", x.sum(0, 0, PAID), 40);
        due("27: group 1", x.sum(1, 0, PAID), 60);
        due("27: group 0", x.sum(0, 0, CENTS), 4000);
        due("27: rounded for each", x.sum(1, 0, CENTS), 1);
        due("27: another month", x.sum(0, 1, PAID), 0);
        x.close();
        x.rate(0, 0, 0);
        due("27: closed", x.sum(0, 0, CENTS), 4000);
        due("27: closed", x.sum(0, 0, PAID), 40);
        x.late(0, 0, 5, GO);
        due("27: closed", x.sum(0, 0, PAID), 40);
        due("27: booked", x.sum(0, 1, PAID), -5);
    }

    private static void counts() {
        ShiftLedger x = new ShiftLedger();
        for (int i = 0; i < 2; i++) x.worker(i, 0);
        for (int i = 0; i < 3; i++) x.feast(i);
        for (int i = 0; i < 4; i++) x.rate(i, 0, 0);
        for (int i = 0; i < 5; i++) x.surcharge(1, 0, 0, 0);
        for (int i = 0; i < 6; i++) x.mark(i % 2, 0, i, 0);
        for (int what = 0; what < 5; what++) due("28: count(" + what + ")", x.count(what), what + 2);
        x.unmark(0, 0, 0);
        due("28: one less", x.count(4), 5);
        x.feast(0);
        due("28: a feast told again", x.count(1), 3);
    }
}
