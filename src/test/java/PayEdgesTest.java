/** Part 3 of the terms at its edges: rates, surcharges that meet and that count, and the cents of a day. */
public final class PayEdgesTest {
    private static final int MOST = 3, OVER = 4;
    private static final String SORTS = "CGPB";
    private static int wrong = 0;

    private static void due(String call, long got, long want) {
        if (got != want) {
            wrong++;
            System.out.println(call + " answered " + got + ", due is " + want);
        }
    }

    public static void main(String[] args) {
        rateForTheVeryDay();
        rateForTheLatestDay();
        rateToldLatest();
        rateOfTheGroup();
        rateOfTheDayItBegan();
        sixtyRates();
        fromBelowTo();
        fromAboveTo();
        fromEqualToTo();
        aboutMidnight();
        kindsOfSurcharges();
        onlyPaidMinutes();
        noneExcluding();
        theGreaterP();
        theSameP();
        excludedBySeveral();
        excludedByOneThatDoesNotCount();
        excludedOnlyWhereItMeets();
        excludedOnlyInItsKind();
        nearestCent();
        overtimePay();
        surchargePay();
        roundedOnceADay();
        leastAndGreatestPay();
        System.out.println(wrong == 0 ? "all answers are as due" : wrong + " answers are not as due");
        if (wrong != 0) System.exit(1);
    }

    /** A worker with marks, each a time and the first letter of its sort, as in "480C 720P 745B 1020G". */
    private static ShiftLedger told(String marks) {
        ShiftLedger x = new ShiftLedger();
        x.worker(0, 0);
        for (String mark : marks.split(" ")) {
            int time = Integer.parseInt(mark.substring(0, mark.length() - 1));
            x.mark(0, time / 1440, time % 1440, SORTS.indexOf(mark.charAt(mark.length() - 1)));
        }
        return x;
    }

    /** A worker with an hour of work on each of some days. */
    private static ShiftLedger hoursOn(int... days) {
        ShiftLedger x = new ShiftLedger();
        x.worker(0, 0);
        for (int day : days) {
            x.mark(0, day, 600, 0);
            x.mark(0, day, 660, 1);
        }
        return x;
    }

    // "of those told for a day not behind it .. 0 without"
    private static void rateForTheVeryDay() {
        ShiftLedger x = hoursOn(0, 9, 10, 11, 1095);
        due("22: none told", x.cents(0, 10), 0);
        x.rate(0, 10, 600);
        due("22: the day ahead", x.cents(0, 9), 0);
        due("22: the very day", x.cents(0, 10), 600);
        due("22: the day behind", x.cents(0, 11), 600);
        due("22: the last day", x.cents(0, 1095), 600);
        x.rate(0, 1095, 700);
        due("22: told for the last day", x.cents(0, 1095), 700);
        due("22: not ahead of it", x.cents(0, 11), 600);
        x.rate(0, 0, 500);
        due("22: told for the first day", x.cents(0, 0), 500);
        due("22: up to the next one", x.cents(0, 9), 500);
        due("22: not from the next one on", x.cents(0, 10), 600);
    }

    // "the one for the latest day"
    private static void rateForTheLatestDay() {
        ShiftLedger x = hoursOn(10, 11, 12, 13);
        x.rate(0, 12, 300);
        x.rate(0, 10, 100);
        x.rate(0, 11, 200);
        for (int day = 10; day <= 12; day++) due("22: day " + day, x.cents(0, day), 100 * (day - 9));
        due("22: the latest day, not the one told latest", x.cents(0, 13), 300);
    }

    // "of these the one told latest"
    private static void rateToldLatest() {
        ShiftLedger x = hoursOn(10, 11);
        x.rate(0, 10, 900);
        x.rate(0, 10, 100);
        due("22: the second, smaller", x.cents(0, 10), 100);
        x.rate(0, 10, 800);
        due("22: the third, greater", x.cents(0, 10), 800);
        x.rate(0, 10, 0);
        due("22: the fourth, nothing", x.cents(0, 11), 0);
        x.rate(0, 10, 100000);
        due("22: the greatest", x.cents(0, 11), 100000);
    }

    private static void rateOfTheGroup() {
        ShiftLedger x = new ShiftLedger();
        for (int group = 0; group < 6; group++) {
            x.worker(group, 0);
            x.mark(group, 0, 0, 0);
            x.mark(group, 0, 60, 1);
        }
        for (int group = 5; group >= 0; group--) x.rate(group, 0, 100 + group);
        for (int group = 0; group < 6; group++) due("22: group " + group, x.cents(group, 0), 100 + group);
    }

    private static void rateOfTheDayItBegan() {
        ShiftLedger x = told("1439C 1499G");
        x.rate(0, 1, 6000);
        due("22: nothing was told for the day it began", x.cents(0, 0), 0);
        x.rate(0, 0, 600);
        due("22: all of it at the rate of that day", x.cents(0, 0), 600);
        due("22: nothing of the next day", x.cents(0, 1), 0);
    }

    // "how many were told", "FULL: 60"
    private static void sixtyRates() {
        ShiftLedger x = hoursOn(1095);
        for (int i = 1; i < 60; i++) due("6: rate " + i, x.rate(i % 6, i, i), i);
        due("22: the latest of the group's", x.cents(0, 1095), 54);
        due("6: the 60th", x.rate(0, 1095, 600), 60);
        due("22: the 60th holds", x.cents(0, 1095), 600);
        due("6: the 61st", x.rate(0, 1095, 700), -4);
        due("22: the 61st does not", x.cents(0, 1095), 600);
        due("28: rates", x.count(2), 60);
    }

    /** All minutes of day 0 but 960 to 1399 are paid, the last ones on the next day. */
    private static ShiftLedger longDay(int from, int to) {
        ShiftLedger x = told("0C 960G 1400C 2360G");
        x.surcharge(255, from, to, 10);
        return x;
    }

    private static void meets(String which, ShiftLedger x, int... minuteAndAnswer) {
        for (int i = 0; i < minuteAndAnswer.length; i += 2) {
            String minute = which + ", minute " + minuteAndAnswer[i];
            due("21: meets, " + minute, x.counts(0, 0, minuteAndAnswer[i], 0, 1), minuteAndAnswer[i + 1]);
            due("21: counts, " + minute, x.counts(0, 0, minuteAndAnswer[i], 0, 0), minuteAndAnswer[i + 1]);
        }
    }

    // "from below to: from to to - 1"
    private static void fromBelowTo() {
        meets("100 to 200", longDay(100, 200), 0, 0, 99, 0, 100, 1, 101, 1, 199, 1, 200, 0,
            1539, 0, 1540, 1, 1639, 1, 1640, 0);
        meets("100 to 101", longDay(100, 101), 99, 0, 100, 1, 101, 0, 1539, 0, 1540, 1, 1541, 0);
        meets("0 to 1", longDay(0, 1), 0, 1, 1, 0, 1439, 0, 1440, 1, 1441, 0);
        meets("0 to 1439", longDay(0, 1439), 0, 1, 1438, 1, 1439, 0, 1440, 1, 2359, 1);
        meets("1438 to 1439", longDay(1438, 1439), 1437, 0, 1438, 1, 1439, 0, 1440, 0);
    }

    // "from above to: from and more, or below to"
    private static void fromAboveTo() {
        meets("1420 to 20", longDay(1420, 20), 0, 1, 19, 1, 20, 0, 1419, 0, 1420, 1, 1439, 1, 1440, 1, 1459, 1, 1460, 0);
        meets("200 to 100", longDay(200, 100), 99, 1, 100, 0, 199, 0, 200, 1, 1539, 1, 1540, 0, 1639, 0, 1640, 1);
        meets("101 to 100", longDay(101, 100), 99, 1, 100, 0, 101, 1);
    }

    // "from equal to to: any"
    private static void fromEqualToTo() {
        meets("300 to 300", longDay(300, 300), 0, 1, 299, 1, 300, 1, 301, 1, 1439, 1, 1440, 1, 1740, 1, 2359, 1);
        meets("0 to 0", longDay(0, 0), 0, 1, 1, 1, 1439, 1, 1440, 1);
        meets("1439 to 1439", longDay(1439, 1439), 0, 1, 1438, 1, 1439, 1, 1440, 1);
    }

    private static void aboutMidnight() {
        meets("1439 to 0", longDay(1439, 0), 0, 0, 1438, 0, 1439, 1, 1440, 0);
        meets("1 to 0", longDay(1, 0), 0, 0, 1, 1, 1439, 1, 1440, 0, 1441, 1);
        meets("1439 to 1", longDay(1439, 1), 0, 1, 1, 0, 1438, 0, 1439, 1, 1440, 1, 1441, 0);
    }

    // "the day's KIND is one of its KINDS", "KINDS (bits 0 to 7)"
    private static void kindsOfSurcharges() {
        ShiftLedger x = told("1400C 1500G");
        for (int bit = 0; bit < 8; bit++) x.surcharge(1 << bit, 0, 0, 10);
        x.surcharge(0, 0, 0, 10);
        x.surcharge(255, 0, 0, 10);
        x.surcharge(254, 0, 0, 10);
        for (int kind = 0; kind < 8; kind++) {
            x.kind(0, 0, kind);
            for (int s = 0; s < 8; s++) {
                due("21: kind " + kind + ", bit " + s, x.counts(0, 0, 1400, s, 1), s == kind ? 1 : 0);
            }
            due("21: the kind of the day it began", x.counts(0, 0, 1499, kind, 1), 1);
            due("21: kind " + kind + " of none", x.counts(0, 0, 1400, 8, 1), 0);
            due("21: kind " + kind + " of all", x.counts(0, 0, 1400, 9, 1), 1);
            due("21: kind " + kind + " of all but 0", x.counts(0, 0, 1400, 10, 1), kind == 0 ? 0 : 1);
        }
    }

    // "One MEETS a PAID MINUTE"
    private static void onlyPaidMinutes() {
        ShiftLedger x = told("97C 200P 210B 303G");
        x.surcharge(255, 0, 0, 10);
        x.rule(0, 0, 5, 0);
        x.rule(0, 1, 110, 290);
        x.rule(0, 2, 100, 15);
        x.rule(0, MOST, 150, 0);
        x.rule(0, OVER, 100, 0);
        int[][] want = {{96, 0}, {97, 2}, {100, 3}, {110, 7}, {200, 1}, {210, 7}, {219, 7}, {220, 6}, {269, 6}, {270, 5},
            {285, 4}, {290, 3}, {300, 2}, {303, 0}, {2879, 0}};
        for (int[] a : want) {
            due("18: class of minute " + a[0], x.minute(0, 0, a[0]), a[1]);
            due("21: meets class " + a[1], x.counts(0, 0, a[0], 0, 1), a[1] >= 6 ? 1 : 0);
            due("21: counts in class " + a[1], x.counts(0, 0, a[0], 0, 0), a[1] >= 6 ? 1 : 0);
        }
    }

    /** An hour at 6000 cents, so that each minute is a whole of 100 cents, with surcharges for all of it. */
    private static ShiftLedger hourWith(int... p) {
        ShiftLedger x = told("0C 60G");
        x.rate(0, 0, 6000);
        for (int one : p) x.surcharge(1, 0, 0, one);
        return x;
    }

    private static void counting(String which, ShiftLedger x, int... want) {
        for (int s = 0; s < want.length; s++) {
            due("21: " + which + ", surcharge " + s, x.counts(0, 0, 30, s, 0), want[s]);
            due("21: " + which + ", surcharge " + s + " meets", x.counts(0, 0, 30, s, 1), 1);
        }
    }

    private static void noneExcluding() {
        ShiftLedger x = hourWith(100, 100, 200, 0);
        counting("none excludes", x, 1, 1, 1, 1);
        due("22: all are added", x.cents(0, 0), 6240);
    }

    // "EXCLUDES it and has a greater p"
    private static void theGreaterP() {
        ShiftLedger x = hourWith(100, 101);
        x.exclude(0, 1);
        counting("the second is greater", x, 0, 1);
        ShiftLedger y = hourWith(101, 100);
        y.exclude(0, 1);
        counting("the first is greater", y, 1, 0);
        ShiftLedger z = hourWith(0, 20000);
        z.exclude(1, 0);
        counting("told the other way round", z, 0, 1);
        due("22: 200 percent more", z.cents(0, 0), 18000);
    }

    // "or the same and a lower number"
    private static void theSameP() {
        ShiftLedger x = hourWith(100, 100, 100);
        x.exclude(0, 1);
        counting("the lower number", x, 1, 0, 1);
        x.exclude(2, 1);
        counting("the lowest of three", x, 1, 0, 0);
        x.exclude(2, 0);
        counting("each pair of three", x, 1, 0, 0);
        ShiftLedger y = hourWith(0, 0);
        y.exclude(1, 0);
        counting("p is 0", y, 1, 0);
    }

    private static void excludedBySeveral() {
        ShiftLedger x = hourWith(300, 100, 200, 100);
        for (int s = 1; s <= 3; s++) x.exclude(0, s);
        counting("one and three others", x, 1, 0, 0, 0);
        ShiftLedger y = hourWith(300, 100, 200, 100);
        for (int s = 1; s <= 3; s++) y.exclude(s, 0);
        counting("one and three others", y, 1, 0, 0, 0);
        ShiftLedger z = hourWith(100, 300, 100, 50, 400);
        z.exclude(0, 1);
        z.exclude(0, 2);
        z.exclude(0, 3);
        counting("one of them is greater", z, 0, 1, 0, 0, 1);
        for (int s = 1; s <= 3; s++) due("8: they exclude one another", z.exclude(s, 0), 0);
        due("8: these do not", z.exclude(1, 2), 1);
    }

    // "none that MEETS it, too": it need not count.
    private static void excludedByOneThatDoesNotCount() {
        ShiftLedger x = hourWith(100, 200, 300);
        x.exclude(0, 1);
        x.exclude(1, 2);
        counting("in a chain", x, 0, 0, 1);
        due("22: the greatest alone", x.cents(0, 0), 6180);
        x.exclude(0, 2);
        counting("each pair", x, 0, 0, 1);
    }

    private static void excludedOnlyWhereItMeets() {
        ShiftLedger x = told("0C 60G");
        x.rate(0, 0, 6000);
        x.surcharge(1, 0, 40, 1000);
        x.surcharge(1, 20, 60, 2000);
        x.exclude(0, 1);
        int[][] want = {{0, 1, 0}, {19, 1, 0}, {20, 0, 1}, {39, 0, 1}, {40, 0, 1}, {59, 0, 1}};
        for (int[] a : want) {
            due("21: the first at minute " + a[0], x.counts(0, 0, a[0], 0, 0), a[1]);
            due("21: the second at minute " + a[0], x.counts(0, 0, a[0], 1, 0), a[2]);
        }
        due("22: 20 at 10, 40 at 20 percent", x.cents(0, 0), 6000 + 200 + 800);
    }

    private static void excludedOnlyInItsKind() {
        ShiftLedger x = told("0C 60G");
        x.surcharge(3, 0, 0, 1000);
        x.surcharge(2, 0, 0, 2000);
        x.exclude(0, 1);
        due("21: the greater is of another kind", x.counts(0, 0, 0, 0, 0), 1);
        x.kind(0, 0, 1);
        due("21: both are of this kind", x.counts(0, 0, 0, 0, 0), 0);
        due("21: both are of this kind", x.counts(0, 0, 0, 1, 0), 1);
    }

    /** The pay of some minutes at a cent an hour, with a share more for the first one. */
    private static long payOf(int minutes, int p) {
        ShiftLedger x = told("0C " + minutes + "G");
        x.rate(0, 0, 1);
        x.surcharge(1, 0, 1, p);
        return x.cents(0, 0);
    }

    // "divided by 600000, to the nearest whole number, of two the even one"
    private static void nearestCent() {
        due("22: 10000", payOf(1, 0), 0);
        due("22: 299999", payOf(29, 9999), 0);
        due("22: 300000, to 0", payOf(29, 10000), 0);
        due("22: 300001", payOf(29, 10001), 1);
        due("22: 599999", payOf(59, 9999), 1);
        due("22: 600000", payOf(60, 0), 1);
        due("22: 600001", payOf(60, 1), 1);
        due("22: 899999", payOf(89, 9999), 1);
        due("22: 900000, to 2", payOf(89, 10000), 2);
        due("22: 900001", payOf(89, 10001), 2);
        due("22: 1499999", payOf(149, 9999), 2);
        due("22: 1500000, to 2", payOf(149, 10000), 2);
        due("22: 1500001", payOf(149, 10001), 3);
        due("22: 2100000, to 4", payOf(210, 0), 4);
    }

    // "and, if it is OVERTIME, b of OVER"
    private static void overtimePay() {
        ShiftLedger x = hourWith();
        int[][] want = {{59, 0, 6000}, {59, 1, 6000}, {59, 50, 6000}, {59, 51, 6001}, {59, 150, 6002}, {59, 20000, 6200},
            {60, 20000, 6000}, {61, 20000, 6000}, {1, 10000, 6000 + 5900}, {0, 20000, 6000}};
        for (int[] a : want) {
            x.rule(0, OVER, a[0], a[1]);
            due("22: over " + a[0] + ", " + a[1], x.cents(0, 0), a[2]);
        }
        x.rule(0, OVER, 30, 10000);
        x.rule(0, MOST, 40, 0);
        due("22: what went is not paid", x.cents(0, 0), 3000 + 2000);
        x.rule(1, OVER, 1, 20000);
        due("22: b of another kind", x.cents(0, 0), 5000);
    }

    // "and p of each that COUNTS"
    private static void surchargePay() {
        ShiftLedger x = hourWith(1000, 2500, 2000);
        due("22: all three", x.cents(0, 0), 6000 + 600 + 1500 + 1200);
        x.exclude(0, 1);
        due("22: the first does not count", x.cents(0, 0), 6000 + 1500 + 1200);
        x.rule(0, OVER, 50, 5000);
        due("22: ten of overtime", x.cents(0, 0), 6000 + 1500 + 1200 + 500);
        ShiftLedger night = told("1439C 1441G");
        night.rate(0, 0, 6000);
        night.surcharge(1, 1439, 0, 1000);
        due("22: ahead of midnight", night.cents(0, 0), 210);
        night.surcharge(1, 0, 1, 2000);
        due("22: behind midnight, too", night.cents(0, 0), 230);
        night.surcharge(1, 1439, 1, 3000);
        due("22: over midnight, too", night.cents(0, 0), 290);
        night.kind(0, 1, 1);
        night.surcharge(2, 0, 0, 5000);
        night.rule(1, OVER, 1, 5000);
        due("22: the next day's kind does not matter", night.cents(0, 0), 290);
        night.kind(0, 0, 1);
        night.kind(0, 1, 0);
        due("22: that of the day it began does", night.cents(0, 0), 350);
        ShiftLedger both = longDay(100, 200);
        both.rate(0, 0, 6000);
        due("22: on both days", both.cents(0, 0), 192000 + 10 * 200 / 100);
    }

    // "all added, divided .. ": shifts of a day together, days each by itself.
    private static void roundedOnceADay() {
        ShiftLedger x = told("0C 30G 40C 70G");
        x.rate(0, 0, 1);
        due("22: two halves of a day", x.cents(0, 0), 1);
        ShiftLedger y = told("0C 30G 1440C 1470G");
        y.rate(0, 0, 1);
        due("22: a half", y.cents(0, 0), 0);
        due("22: a half of the next day", y.cents(0, 1), 0);
        due("26: rounded by the day", y.month(0, 0, 1), 0);
        ShiftLedger z = told("0C 40G 1440C 1480G");
        z.rate(0, 0, 1);
        due("26: two thirds, two times", z.month(0, 0, 1), 2);
    }

    private static void leastAndGreatestPay() {
        ShiftLedger x = told("0C 960G 1439C 2399G");
        due("22: without a rate", x.cents(0, 0), 0);
        x.rate(0, 0, 100000);
        due("22: at the greatest rate", x.cents(0, 0), 3200000);
        for (int s = 0; s < 12; s++) x.surcharge(255, s, s, 20000);
        due("22: with twelve of 200 percent", x.cents(0, 0), 3200000L * 25);
        x.rule(0, OVER, 960, 20000);
        due("22: half of it overtime", x.cents(0, 0), 3200000L * 25 + 3200000);
        due("26: the month", x.month(0, 0, 1), 3200000L * 26);
        due("27: the group", x.sum(0, 0, 1), 3200000L * 26);
        ShiftLedger gap = told("0C 961G");
        gap.rate(0, 0, 100000);
        due("22: a gap is not paid", gap.cents(0, 0), 0);
        due("22: a day without marks", gap.cents(0, 1095), 0);
    }
}
