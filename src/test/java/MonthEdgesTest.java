/** Part 4 of the terms at its edges: what is due, flex and its limits, closing, and what is booked behind it. */
public final class MonthEdgesTest {
    private static final int STATE = -3;
    private static final int FLEX = 2;
    private static final int LAST_TIME = 1578239;
    private static final String SORTS = "CGPB";
    private static int wrong = 0;

    private static void due(String call, long got, long want) {
        if (got != want) {
            wrong++;
            System.out.println(call + " answered " + got + ", due is " + want);
        }
    }

    public static void main(String[] args) {
        dueOfFeasts();
        dueFromFirstOn();
        dueOfAbsentOnes();
        dueOfTheGroup();
        paidIsCutToHigh();
        lackIsCutToLow();
        widestLimits();
        limitsOfTheGroup();
        uncutWhileOpen();
        cutIsHandedOn();
        flexOfFirstDays();
        firstAndLastOfAMonth();
        gapsOfTheMonthAlone();
        gapOfTheLastDay();
        gapOfAnyWorker();
        refusedClosing();
        monthsInTheirOrder();
        closedStaysAsItWas();
        closedStaysWhateverIsMarked();
        bookedForTheFirstOpen();
        bookedOfSeveralMonths();
        bookedOnADayFarBehind();
        bookedByMarksOfOpenMonths();
        bookedByMarksThatGo();
        nothingBookedOfOpenDays();
        bookedWhatMovesToAClosedDay();
        bookedByTheRules();
        bookedCentsOfEachDay();
        bookedByWhatIsToldNow();
        bookedForTheLastMonth();
        bookedStays();
        overtimeIsPaid();
        sumsOfGroups();
        workersOfLater();
        System.out.println(wrong == 0 ? "all answers are as due" : wrong + " answers are not as due");
        if (wrong != 0) System.exit(1);
    }

    private static int put(ShiftLedger x, int w, String mark, boolean late) {
        int time = Integer.parseInt(mark.substring(0, mark.length() - 1));
        int sort = SORTS.indexOf(mark.charAt(mark.length() - 1));
        return late ? x.late(w, time / 1440, time % 1440, sort) : x.mark(w, time / 1440, time % 1440, sort);
    }

    private static void marks(ShiftLedger x, int w, String marks) {
        for (String mark : marks.split(" ")) put(x, w, mark, false);
    }

    private static void lates(ShiftLedger x, String marks) {
        for (String mark : marks.split(" ")) put(x, 0, mark, true);
    }

    /** A worker at 6000 cents an hour, with wide limits and marks as in "480C 720P 745B 1020G". */
    private static ShiftLedger told(String marks) {
        ShiftLedger x = new ShiftLedger();
        x.worker(0, 0);
        x.rate(0, 0, 6000);
        x.limits(0, -100000, 100000);
        marks(x, 0, marks);
        return x;
    }

    private static void says(String which, ShiftLedger x, int m, long... want) {
        for (int what = 0; what < want.length; what++) {
            due("26: " + which + ", month " + m + ", what " + what, x.month(0, m, what), want[what]);
        }
    }

    private static ShiftLedger hundredADay(int first) {
        ShiftLedger x = new ShiftLedger();
        x.worker(0, first);
        for (int weekday = 0; weekday < 7; weekday++) x.target(0, weekday, 100);
        return x;
    }

    // "0 if it is a FEAST"
    private static void dueOfFeasts() {
        ShiftLedger x = hundredADay(0);
        x.feast(0);
        x.feast(20);
        x.feast(1095);
        int[][] want = {{0, 0}, {1, 100}, {19, 100}, {20, 0}, {21, 100}, {27, 100}, {1094, 100}, {1095, 0}};
        for (int[] a : want) due("23: day " + a[0], x.due(0, a[0]), a[1]);
        x.kind(0, 7, 3);
        due("23: its kind does not matter", x.due(0, 20), 0);
    }

    // "or ahead of FIRST"
    private static void dueFromFirstOn() {
        int[] firsts = {0, 1, 10, 1095};
        for (int first : firsts) {
            ShiftLedger x = hundredADay(first);
            due("23: the day ahead of first", x.due(0, first - 1), first == 0 ? -1 : 0);
            due("23: the first day", x.due(0, first), 100);
            due("23: the last day", x.due(0, 1095), 100);
            due("23: day 0", x.due(0, 0), first == 0 ? 100 : 0);
        }
    }

    // "or the WORKER is ABSENT", "from a day to another one"
    private static void dueOfAbsentOnes() {
        ShiftLedger x = hundredADay(0);
        x.worker(0, 0);
        x.absent(0, 30, 32);
        x.absent(0, 40, 40);
        x.absent(0, 55, 60);
        x.absent(0, 50, 57);
        x.absent(0, 0, 0);
        x.absent(0, 1095, 1095);
        int[][] want = {{0, 0}, {1, 100}, {29, 100}, {30, 0}, {31, 0}, {32, 0}, {33, 100}, {39, 100}, {40, 0}, {41, 100},
            {49, 100}, {50, 0}, {54, 0}, {55, 0}, {57, 0}, {58, 0}, {60, 0}, {61, 100}, {1094, 100}, {1095, 0}};
        for (int[] a : want) due("23: day " + a[0], x.due(0, a[0]), a[1]);
        due("23: another worker", x.due(1, 31), 100);
        for (int i = 7; i < 20; i++) x.absent(0, 80, 80);
        due("11: the 20th", x.absent(0, 90, 91), 20);
        due("23: the 20th holds", x.due(0, 91), 0);
        due("11: the 21st", x.absent(0, 92, 93), -4);
        due("23: the 21st does not", x.due(0, 92), 100);
        x.absent(1, 0, 1095);
        due("23: all days, the first", x.due(1, 0), 0);
        due("23: all days, the last", x.due(1, 1095), 0);
    }

    private static void dueOfTheGroup() {
        ShiftLedger x = new ShiftLedger();
        for (int group = 0; group < 6; group++) x.worker(group, 0);
        for (int group = 0; group < 6; group++) x.target(group, group, 1440 - group);
        for (int group = 0; group < 6; group++) {
            for (int day = 0; day < 7; day++) {
                due("23: group " + group + ", day " + day, x.due(group, day), day == group ? 1440 - group : 0);
            }
        }
    }

    /** What a month's flex is cut to when it is closed, with some minutes paid and each weekday's target. */
    private static long cut(int paid, int target, int low, int high) {
        ShiftLedger x = told("0C " + paid + "G");
        // Weekday 4 comes four times in the first month.
        x.target(0, 4, target);
        x.limits(0, low, high);
        due("26: uncut", x.month(0, 0, FLEX), paid - 4 * target);
        due("24: close", x.close(), 0);
        return x.month(0, 0, FLEX);
    }

    // "its FLEX is cut to LOW .. HIGH"
    private static void paidIsCutToHigh() {
        due("26: below HIGH", cut(100, 0, 0, 101), 100);
        due("26: HIGH", cut(100, 0, 0, 100), 100);
        due("26: above HIGH", cut(100, 0, 0, 99), 99);
        due("26: HIGH is 0", cut(100, 0, -5, 0), 0);
        due("26: HIGH is below 0", cut(100, 0, -5, -3), -3);
        due("26: LOW and HIGH are it", cut(100, 0, 100, 100), 100);
        due("26: LOW and HIGH are one, below", cut(100, 0, 99, 99), 99);
        due("26: LOW and HIGH are one, above", cut(100, 0, 101, 101), 101);
    }

    private static void lackIsCutToLow() {
        due("26: above LOW", cut(100, 50, -101, 0), -100);
        due("26: LOW", cut(100, 50, -100, 0), -100);
        due("26: below LOW", cut(100, 50, -99, 0), -99);
        due("26: LOW is 0", cut(100, 50, 0, 5), 0);
        due("26: LOW is above 0", cut(100, 50, 3, 5), 3);
        due("26: raised to LOW", cut(100, 0, 101, 200), 101);
        due("26: it is LOW", cut(100, 0, 100, 200), 100);
        due("26: HIGH is below it", cut(100, 50, -200, -101), -101);
    }

    private static void widestLimits() {
        ShiftLedger x = new ShiftLedger();
        x.worker(0, 0);
        for (int weekday = 0; weekday < 7; weekday++) x.target(0, weekday, 1440);
        x.limits(0, -100000, 100000);
        due("26: three months of nothing", x.month(0, 2, FLEX), -1440 * 90);
        x.close();
        x.close();
        due("26: two are within", x.month(0, 1, FLEX), -1440 * 59);
        x.close();
        due("26: three are not", x.month(0, 2, FLEX), -100000);
        x.limits(0, 100000, 100000);
        x.close();
        due("26: the greatest LOW", x.month(0, 3, FLEX), 100000);
        due("26: handed on", x.month(0, 4, FLEX), 100000 - 1440 * 31);
    }

    private static void limitsOfTheGroup() {
        ShiftLedger x = new ShiftLedger();
        for (int group = 0; group < 6; group++) x.worker(group, 0);
        for (int group = 0; group < 6; group++) x.limits(group, group, group + 1);
        x.close();
        for (int group = 0; group < 6; group++) due("26: group " + group, x.month(group, 0, FLEX), group);
        ShiftLedger later = new ShiftLedger();
        later.worker(0, 100);
        later.limits(0, 5, 10);
        later.close();
        due("26: LOW ahead of the first day", later.month(0, 0, FLEX), 5);
    }

    private static void uncutWhileOpen() {
        ShiftLedger x = told("0C 100G 44640C 44690G");
        x.limits(0, -10, 10);
        says("open", x, 0, 100, 10000, 100, 0, 0);
        says("open", x, 1, 50, 5000, 150, 0, 0);
        says("open", x, 35, 0, 0, 150, 0, 0);
    }

    private static void cutIsHandedOn() {
        ShiftLedger x = told("0C 100G 44640C 44690G");
        x.limits(0, -10, 10);
        x.close();
        says("PAID and CENTS are not cut", x, 0, 100, 10000, 10, 0, 0);
        says("from what was cut", x, 1, 50, 5000, 60, 0, 0);
        says("from what was cut", x, 35, 0, 0, 60, 0, 0);
        x.limits(0, 0, 55);
        says("limits told later", x, 0, 100, 10000, 10, 0, 0);
        x.close();
        says("cut anew", x, 1, 50, 5000, 55, 0, 0);
        says("handed on", x, 2, 0, 0, 55, 0, 0);
    }

    // "of all its days, PAID MINUTES less DUE"
    private static void flexOfFirstDays() {
        int[][] want = {{0, 31}, {1, 30}, {29, 2}, {30, 1}, {31, 0}, {1095, 0}};
        for (int[] a : want) {
            due("26: first day " + a[0], hundredADay(a[0]).month(0, 0, FLEX), -100 * a[1]);
        }
        due("26: the last day alone", hundredADay(1095).month(0, 35, FLEX), -100);
        due("26: ahead of it", hundredADay(1095).month(0, 34, FLEX), 0);
        ShiftLedger x = hundredADay(0);
        x.feast(30);
        x.feast(31);
        x.absent(0, 0, 9);
        due("26: feasts and absences", x.month(0, 0, FLEX), -2000);
        due("26: feasts and absences", x.month(0, 1, FLEX), -2000 - 2700);
    }

    private static void firstAndLastOfAMonth() {
        ShiftLedger x = told("44639C 44641G 84959C 84961G");
        says("over the end of the first", x, 0, 2, 200, 2, 0, 0);
        says("over the end of the second", x, 1, 2, 200, 4, 0, 0);
        says("nothing in the third", x, 2, 0, 0, 4, 0, 0);
        due("24: close", x.close(), 0);
        due("24: close", x.close(), 1);
        says("over the end of the first", x, 0, 2, 200, 2, 0, 0);
        says("over the end of the second", x, 1, 2, 200, 4, 0, 0);
    }

    // "STATE: some WORKER has a GAP of a day of it"
    private static void gapsOfTheMonthAlone() {
        due("24: a gap of the first minute", told("0C").close(), STATE);
        due("24: a gap of the last minute", told("44639C").close(), STATE);
        due("24: a gap of the next month", told("44640C").close(), 0);
        due("24: a gap that ends in the next month", told("44639C 44640G").close(), 0);
        due("24: a gap that ends too late", told("44639C 45600G").close(), STATE);
        due("24: doubles", told("0G 1P 2B").close(), 0);
        ShiftLedger x = told("44640C");
        x.close();
        due("24: then it is of the month", x.close(), STATE);
        lates(x, "100C");
        due("24: and of a closed one", x.close(), STATE);
        x.unmark(0, 31, 0);
        due("24: that of the closed one alone", x.close(), 1);
        due("17: it is there", x.shifts(0, 0, 1), 1);
    }

    private static void gapOfTheLastDay() {
        ShiftLedger x = told(LAST_TIME + "C");
        for (int m = 0; m < 35; m++) due("24: month " + m, x.close(), m);
        due("24: a gap of the last minute of all", x.close(), STATE);
        due("25: the last is open", x.open(), 35);
        due("12: a come ahead of it", x.mark(0, 1095, 1438, 0), 2);
        due("24: a gap all the same", x.close(), STATE);
        due("14: the last one goes", x.unmark(0, 1095, 1439), 1);
        due("12: a go in its place", x.mark(0, 1095, 1439, 1), 2);
        due("24: no gap", x.close(), 35);
        due("25: none is open", x.open(), 36);
        due("24: none is open", x.close(), STATE);
        says("the last month", x, 35, 1, 100, 1, 0, 0);
    }

    private static void gapOfAnyWorker() {
        for (int with = 0; with < 30; with += 29) {
            ShiftLedger x = new ShiftLedger();
            for (int w = 0; w < 30; w++) x.worker(w % 6, 0);
            x.mark(with, 30, 0, 0);
            due("24: a gap of worker " + with, x.close(), STATE);
            x.mark(with, 30, 1, 1);
            due("24: it ends", x.close(), 0);
        }
    }

    private static void refusedClosing() {
        ShiftLedger x = told("0C 100G 200C");
        x.worker(0, 0);
        x.limits(0, 5, 10);
        due("24: a gap", x.close(), STATE);
        due("25: it stays open", x.open(), 0);
        says("nothing is cut", x, 0, 100, 10000, 100, 0, 0);
        due("26: nor of the other worker", x.month(1, 0, FLEX), 0);
        due("12: marks are taken", x.mark(0, 0, 260, 1), 4);
        due("24: no gap", x.close(), 0);
        says("cut", x, 0, 160, 16000, 10, 0, 0);
        due("26: the other worker", x.month(1, 0, FLEX), 5);
    }

    // "MONTHS are closed in their order", "36: there is none"
    private static void monthsInTheirOrder() {
        ShiftLedger x = told("0G");
        for (int m = 0; m < 36; m++) {
            due("25: open", x.open(), m);
            due("24: close", x.close(), m);
        }
        due("25: none", x.open(), 36);
        due("24: none", x.close(), STATE);
        due("25: none", x.open(), 36);
        due("13: all are closed", x.late(0, 0, 5, 0), STATE);
        due("12: all are closed", x.mark(0, 1095, 5, 0), STATE);
        due("14: all are closed", x.unmark(0, 0, 0), STATE);
        for (int what = 0; what < 5; what++) due("26: the last month", x.month(0, 35, what), 0);
    }

    // "what a closed one says of a WORKER stays as it was", whatever is told of its days later.
    private static void closedStaysAsItWas() {
        for (int call = 0; call < 10; call++) {
            ShiftLedger x = told("0C 100G 44640C 44700G");
            x.target(0, 1, 10);
            x.surcharge(1, 0, 0, 1000);
            x.surcharge(1, 0, 0, 2000);
            x.close();
            tell(x, call);
            says("told " + call, x, 0, 100, 13000, 100 - 50, 0, 0);
            due("27: told " + call, x.sum(0, 0, 0), 100);
            due("27: told " + call, x.sum(0, 0, 1), 13000);
            due("26: nothing is booked, told " + call, x.month(0, 1, 3), 0);
            due("26: nothing is booked, told " + call, x.month(0, 1, 4), 0);
        }
    }

    private static void tell(ShiftLedger x, int call) {
        switch (call) {
            case 0: due("told", x.worker(0, 0), 1); break;
            case 1: due("told", x.feast(0), 1); due("told", x.feast(1), 1); break;
            case 2: due("told", x.kind(0, 0, 3), 0); break;
            case 3: due("told", x.rule(0, 3, 5, 0), 0); break;
            case 4: due("told", x.rate(0, 0, 12000), 2); break;
            case 5: due("told", x.surcharge(255, 0, 0, 20000), 2); break;
            case 6: due("told", x.exclude(0, 1), 1); break;
            case 7: due("told", x.target(0, 1, 1000), 10); break;
            case 8: due("told", x.limits(0, -3, 3), 0); break;
            default: due("told", x.absent(0, 0, 30), 1); break;
        }
    }

    private static void closedStaysWhateverIsMarked() {
        ShiftLedger x = told("0C 100G 44639C 44641G");
        x.close();
        long[] want = {102, 10200, 102, 0, 0};
        lates(x, "200C 260G 50P");
        says("late ones", x, 0, want);
        x.unmark(0, 31, 1);
        says("one goes", x, 0, want);
        marks(x, 0, "44650G");
        says("one comes", x, 0, want);
        due("27: as it was", x.sum(0, 0, 0), 102);
        x.close();
        says("the next one is closed", x, 0, want);
    }

    // "is BOOKED, for the WORKER, for the first open MONTH"
    private static void bookedForTheFirstOpen() {
        ShiftLedger x = told("0C 100G");
        x.worker(0, 0);
        x.close();
        lates(x, "200C");
        says("a gap books nothing", x, 1, 0, 0, 100, 0, 0);
        lates(x, "260G");
        says("booked", x, 0, 100, 10000, 100, 0, 0);
        says("booked", x, 1, 60, 6000, 160, 60, 6000);
        says("booked", x, 2, 0, 0, 160, 0, 0);
        lates(x, "50G");
        says("less", x, 1, 10, 1000, 110, 10, 1000);
        lates(x, "40G");
        says("below 0 in all", x, 1, 0, 0, 100, 0, 0);
        lates(x, "30G");
        says("below 0 in all", x, 1, -10, -1000, 90, -10, -1000);
        for (int what = 0; what < 5; what++) due("26: the other worker", x.month(1, 1, what), 0);
        due("27: the group", x.sum(0, 1, 0), -10);
        due("27: the group", x.sum(0, 1, 1), -1000);
    }

    // "for each day of closed MONTHS": all of them, not the first open one's neighbour alone.
    private static void bookedOfSeveralMonths() {
        ShiftLedger x = told("0G");
        for (int m = 0; m < 3; m++) x.close();
        lates(x, "100C 110G");
        lates(x, "44640C 44660G");
        lates(x, "129599C");
        says("two pairs", x, 3, 30, 3000, 30, 30, 3000);
        marks(x, 0, "129639G");
        says("over the end of the last closed one", x, 3, 70, 7000, 70, 70, 7000);
        for (int m = 0; m < 3; m++) says("closed", x, m, 0, 0, 0, 0, 0);
    }

    // A come 600 minutes behind another one is double, the next one is not: one more ahead of all turns them round.
    private static void bookedOnADayFarBehind() {
        ShiftLedger x = told("44640C 44700G");
        x.close();
        for (int k = 1; k <= 71; k++) put(x, 0, 600 * k + "C", true);
        says("gaps", x, 1, 60, 6000, 60, 0, 0);
        lates(x, "43500G");
        due("17: the last one ends", x.shifts(0, 29, 0), 1);
        says("its 900 minutes", x, 1, 960, 96000, 960, 900, 90000);
        lates(x, "0C");
        due("15: the last come is double", x.marked(0, 71, 2), 0);
        due("17: none ends", x.shifts(0, 29, 0), 0);
        says("29 days behind the mark", x, 1, 60, 6000, 60, 0, 0);
    }

    private static void bookedByMarksOfOpenMonths() {
        ShiftLedger x = told("44600C 44700G");
        x.close();
        says("closed", x, 0, 100, 10000, 100, 0, 0);
        marks(x, 0, "44680G");
        says("an earlier go", x, 1, -20, -2000, 80, -20, -2000);
        marks(x, 0, "44650P");
        says("a pause with go behind it", x, 1, -50, -5000, 50, -50, -5000);
        marks(x, 0, "44660B");
        says("a rest", x, 1, -30, -3000, 70, -30, -3000);
        marks(x, 0, "44690C");
        says("a shift of the open month", x, 1, -20, -2000, 80, -30, -3000);
    }

    private static void bookedByMarksThatGo() {
        ShiftLedger x = told("44600C 44650P 44660B 44680G 44700G");
        x.close();
        says("closed", x, 0, 70, 7000, 70, 0, 0);
        x.unmark(0, 31, 20);
        says("no back", x, 1, -20, -2000, 50, -20, -2000);
        x.unmark(0, 31, 10);
        says("no pause", x, 1, 10, 1000, 80, 10, 1000);
        x.unmark(0, 31, 40);
        says("a later go", x, 1, 30, 3000, 100, 30, 3000);
        x.unmark(0, 31, 60);
        says("no go", x, 1, -70, -7000, 0, -70, -7000);
        due("17: a gap of the closed month", x.shifts(0, 30, 1), 1);
        due("24: it does not keep the next one open", x.close(), 1);
    }

    private static void nothingBookedOfOpenDays() {
        ShiftLedger x = told("44640C 44700G");
        marks(x, 0, "100C 110G");
        x.unmark(0, 0, 110);
        marks(x, 0, "120G");
        says("nothing is closed", x, 0, 20, 2000, 20, 0, 0);
        says("nothing is closed", x, 1, 60, 6000, 80, 0, 0);
        x.close();
        marks(x, 0, "44650P 100000C 100060G 1000000C 1000060G");
        x.unmark(0, 31, 10);
        says("days of open months", x, 1, 60, 6000, 80, 0, 0);
        says("days of open months", x, 2, 60, 6000, 140, 0, 0);
        due("26: days of open months", x.month(0, 22, 3), 0);
        lates(x, "200G 300P 400B");
        says("doubles", x, 1, 60, 6000, 80, 0, 0);
    }

    private static void bookedWhatMovesToAClosedDay() {
        ShiftLedger x = told("44650C 44740G");
        x.close();
        says("open", x, 1, 90, 9000, 90, 0, 0);
        lates(x, "44630C");
        // The come of the open month is double now: all of it is the closed day's.
        says("moved", x, 1, 110, 11000, 110, 110, 11000);
        due("19: the closed day", x.minutes(0, 30, 0), 110);
        due("19: the open day", x.minutes(0, 31, 0), 0);
        lates(x, "44639G");
        says("and back, but for nine", x, 1, 99, 9900, 99, 9, 900);
    }

    // More marks need not be more minutes.
    private static void bookedByTheRules() {
        ShiftLedger x = told("0C 360G");
        x.rule(0, 2, 360, 30);
        x.close();
        lates(x, "400C 401G");
        says("a rest is owed now", x, 1, 1 - 30, -2900, 360 - 29, -29, -2900);
        ShiftLedger y = told("0C 360G");
        y.rule(0, 3, 360, 0);
        y.close();
        lates(y, "400C 460G");
        says("no more than most", y, 1, 0, 0, 360, 0, 0);
        ShiftLedger z = told("0C 60G");
        z.rule(0, 4, 60, 5000);
        z.close();
        lates(z, "400C 410G");
        says("overtime", z, 1, 10, 1500, 70, 10, 1500);
    }

    private static void bookedCentsOfEachDay() {
        ShiftLedger x = told("0C 30G 1440C 1470G");
        x.rate(0, 0, 1);
        x.close();
        says("two halves", x, 0, 60, 0, 60, 0, 0);
        lates(x, "40C 41G");
        says("above a half", x, 1, 1, 1, 61, 1, 1);
        lates(x, "1480C 1481G");
        says("above a half, again", x, 1, 2, 2, 62, 2, 2);
        lates(x, "2880C 2910G");
        says("a half of another day", x, 1, 32, 2, 92, 32, 2);
    }

    // "(by what is told now)": with it and without it, so that what was told since the closing is not booked itself.
    private static void bookedByWhatIsToldNow() {
        ShiftLedger x = told("0C 100G");
        x.close();
        x.rate(0, 0, 12000);
        lates(x, "200C 210G");
        says("the rate of now", x, 1, 10, 2000, 110, 10, 2000);
        x.rule(0, 3, 50, 0);
        lates(x, "300C 310G");
        says("the rule of now", x, 1, 10, 2000, 110, 10, 2000);
        x.kind(0, 0, 1);
        lates(x, "400C 410G");
        says("the kind of now", x, 1, 20, 4000, 120, 20, 4000);
        x.surcharge(2, 0, 0, 5000);
        lates(x, "500C 510G");
        says("the surcharge of now", x, 1, 30, 7000, 130, 30, 7000);
        x.feast(0);
        lates(x, "600C 610G");
        says("the feast of now, cut to most", x, 1, 30, 7000, 130, 30, 7000);
    }

    private static void bookedForTheLastMonth() {
        ShiftLedger x = told("0G");
        for (int m = 0; m < 35; m++) x.close();
        lates(x, "100C 110G");
        says("the last one", x, 35, 10, 1000, 10, 10, 1000);
        due("24: close", x.close(), 35);
        says("closed", x, 35, 10, 1000, 10, 10, 1000);
        due("13: no month is left", x.late(0, 0, 200, 0), STATE);
        says("closed", x, 35, 10, 1000, 10, 10, 1000);
    }

    private static void bookedStays() {
        ShiftLedger x = told("0C 100G");
        x.close();
        lates(x, "200C 260G");
        x.limits(0, 0, 5);
        x.close();
        says("closed with what was booked", x, 1, 60, 6000, 5, 60, 6000);
        lates(x, "250G 55000C 55010G");
        says("it stays", x, 1, 60, 6000, 5, 60, 6000);
        says("the next one", x, 2, 0, 0, 5, 0, 0);
        lates(x, "240G");
        says("the next one", x, 2, -10, -1000, -5, -10, -1000);
        x.close();
        says("cut", x, 2, -10, -1000, 0, -10, -1000);
    }

    private static void overtimeIsPaid() {
        ShiftLedger x = told("0C 100G");
        x.rule(0, 4, 40, 0);
        says("open", x, 0, 100, 10000, 100, 0, 0);
        due("27: open", x.sum(0, 0, 0), 100);
        x.close();
        says("closed", x, 0, 100, 10000, 100, 0, 0);
        lates(x, "200C 210G");
        says("booked", x, 1, 10, 1000, 110, 10, 1000);
    }

    // "of all WORKERS of a GROUP in a MONTH"
    private static void sumsOfGroups() {
        ShiftLedger x = new ShiftLedger();
        for (int group = 0; group < 6; group++) x.rate(group, 0, 60 * group);
        for (int w = 0; w < 30; w++) {
            x.worker(w % 6, 0);
            marks(x, w, "0C " + (w + 1) + "G");
        }
        for (int month = 0; month < 2; month++) {
            for (int group = 0; group < 6; group++) {
                int minutes = 5 * group + 65;
                due("27: PAID of group " + group, x.sum(group, 0, 0), minutes);
                due("27: CENTS of group " + group, x.sum(group, 0, 1), minutes * group);
                due("27: another month", x.sum(group, 1, 0), 0);
            }
            due("24: and closed", x.close(), month);
        }
        due("27: the last month", x.sum(5, 35, 1), 0);
    }

    private static void workersOfLater() {
        ShiftLedger x = new ShiftLedger();
        x.rate(0, 0, 6000);
        x.close();
        due("2: told behind the closing", x.worker(0, 0), 0);
        says("nothing is said of it", x, 0, 0, 0, 0, 0, 0);
        due("13: late", x.late(0, 0, 0, 0), 1);
        due("13: late", x.late(0, 0, 10, 1), 2);
        says("nothing is said of it", x, 0, 0, 0, 0, 0, 0);
        says("booked", x, 1, 10, 1000, 10, 10, 1000);
    }
}
