/** Part 1 of the terms at its edges: days, months, kinds, workers, marks, and what marks make of shifts. */
public final class ShiftEdgesTest {
    private static final int NONE = -1, BAD = -2;
    private static final int[] LENGTHS = {31, 28, 31, 30, 31, 30, 31, 31, 30, 31, 30, 31};
    private static final String SORTS = "CGPB";
    private static int wrong = 0;

    private static void due(String call, long got, long want) {
        if (got != want) {
            wrong++;
            System.out.println(call + " answered " + got + ", due is " + want);
        }
    }

    public static void main(String[] args) {
        firstAndLastDay();
        secondMonths();
        monthsHaveTheirDays();
        weekdaysAreRestsBySeven();
        kindsOfFeasts();
        nothingAtFirst();
        thirtyWorkers();
        timesOfMarks();
        noTwoAtOneTime();
        fourHundredOfOne();
        fiveHundredOfAll();
        lateOnesAreCounted();
        outAtFirst();
        metIn();
        metPaused();
        doublesDoNothing();
        farBehindTheCome();
        farBehindTheComeOverMidnight();
        metOutBehindAGap();
        shiftsWithoutEnd();
        dayOfAShift();
        partsAndRests();
        pauseWithGoBehindIt();
        anyOrder();
        oneLess();
        System.out.println(wrong == 0 ? "all answers are as due" : wrong + " answers are not as due");
        if (wrong != 0) System.exit(1);
    }

    private static int lengthOf(int m) {
        return m == 25 ? 29 : LENGTHS[m % 12];
    }

    private static int tell(ShiftLedger x, String mark) {
        int time = Integer.parseInt(mark.substring(0, mark.length() - 1));
        return x.mark(0, time / 1440, time % 1440, SORTS.indexOf(mark.charAt(mark.length() - 1)));
    }

    /** A worker with marks, each a time and the first letter of its sort, as in "480C 720P 745B 1020G". */
    private static ShiftLedger told(String marks) {
        ShiftLedger x = new ShiftLedger();
        x.worker(0, 0);
        for (String mark : marks.split(" ")) tell(x, mark);
        return x;
    }

    private static String rolesOf(ShiftLedger x) {
        StringBuilder roles = new StringBuilder();
        for (int k = 0; k < x.count(4); k++) roles.append(x.marked(0, k, 2));
        return roles.toString();
    }

    private static void roles(String marks, String want) {
        String got = rolesOf(told(marks));
        if (!got.equals(want)) {
            wrong++;
            System.out.println("15: roles of " + marks + " are " + got + ", due is " + want);
        }
    }

    // "DAYS are 0 .. 1095, of three years"
    private static void firstAndLastDay() {
        ShiftLedger x = new ShiftLedger();
        due("16: month of the day ahead of all", x.day(0, -1, 0), NONE);
        due("16: month of the first day", x.day(0, 0, 0), 0);
        due("16: month of the last day", x.day(0, 1095, 0), 35);
        due("16: month of the day behind all", x.day(0, 1096, 0), NONE);
        due("16: last day of the first year", x.day(0, 364, 0), 11);
        due("16: first day of the second year", x.day(0, 365, 0), 12);
        due("16: last day of the second year", x.day(0, 729, 0), 23);
        due("16: first day of the third year", x.day(0, 730, 0), 24);
    }

    // "in the third year the second one 29"
    private static void secondMonths() {
        ShiftLedger x = new ShiftLedger();
        int[][] want = {{30, 0}, {31, 1}, {58, 1}, {59, 2}, {395, 12}, {396, 13}, {423, 13}, {424, 14},
            {760, 24}, {761, 25}, {788, 25}, {789, 25}, {790, 26}};
        for (int[] a : want) due("16: month of day " + a[0], x.day(5, a[0], 0), a[1]);
    }

    // "MONTHS 0 .. 35 have 31 28 31 .. days": what months add up shows where each begins and ends.
    private static void monthsHaveTheirDays() {
        ShiftLedger x = new ShiftLedger();
        x.worker(0, 0);
        for (int weekday = 0; weekday < 7; weekday++) x.target(0, weekday, 1);
        int day = 0;
        for (int m = 0; m < 36; m++) {
            shift(x, day, 2);
            day += lengthOf(m);
            shift(x, day - 1, 3);
        }
        due("all days", day, 1096);
        int behind = 0;
        for (int m = 0; m < 36; m++) {
            behind += lengthOf(m);
            due("26: PAID of month " + m, x.month(0, m, 0), 5);
            due("26: FLEX of month " + m, x.month(0, m, 2), 5 * (m + 1) - behind);
            due("27: PAID of month " + m, x.sum(0, m, 0), 5);
        }
    }

    private static void shift(ShiftLedger x, int day, int minutes) {
        x.mark(0, day, 0, 0);
        x.mark(0, day, minutes, 1);
    }

    // "The WEEKDAY of a day is its rest by 7"
    private static void weekdaysAreRestsBySeven() {
        ShiftLedger x = new ShiftLedger();
        x.worker(0, 0);
        for (int weekday = 0; weekday < 7; weekday++) {
            x.kind(0, weekday, 7 - weekday);
            x.target(0, weekday, 10 + weekday);
        }
        int[] days = {0, 1, 2, 3, 4, 5, 6, 7, 8, 13, 14, 364, 365, 730, 1089, 1090, 1091, 1092, 1093, 1094, 1095};
        for (int day : days) {
            due("16: kind of day " + day, x.day(0, day, 2), 7 - day % 7);
            due("23: due of day " + day, x.due(0, day), 10 + day % 7);
        }
    }

    // "what was told latest for FEASTS, if it is one, else for its WEEKDAY; 0 at first"
    private static void kindsOfFeasts() {
        ShiftLedger x = new ShiftLedger();
        for (int weekday = 0; weekday < 7; weekday++) x.kind(4, weekday, 1);
        x.feast(0);
        x.feast(1095);
        due("16: a feast, told of weekdays alone", x.day(4, 0, 2), 0);
        due("16: no feast", x.day(4, 1, 2), 1);
        x.kind(4, 7, 7);
        due("16: the first day a feast", x.day(4, 0, 2), 7);
        due("16: the last day a feast", x.day(4, 1095, 2), 7);
        due("16: the day ahead of a feast", x.day(4, 1094, 2), 1);
        due("16: the day behind a feast", x.day(4, 1, 2), 1);
        x.kind(4, 0, 2);
        due("16: the weekday told behind it does not matter", x.day(4, 0, 2), 7);
        due("16: weekday 0", x.day(4, 7, 2), 2);
        x.kind(4, 7, 3);
        due("16: what was told latest for feasts", x.day(4, 0, 2), 3);
        x.feast(7);
        due("16: a feast that is told behind the kinds", x.day(4, 7, 2), 3);
        due("16: feasts for another group", x.day(5, 7, 2), 0);
        due("16: feasts are one for all groups", x.day(5, 7, 1), 1);
    }

    // What is 0 at first (ROUND is 1): no rule takes a minute, in any kind, and nothing is paid or due.
    private static void nothingAtFirst() {
        for (int kind = 0; kind < 8; kind++) {
            ShiftLedger x = told("1C 2P 3B 962C 1001G");
            for (int group = 0; group < 6; group++) due("16: kind at first", x.day(group, kind, 2), 0);
            x.kind(0, 0, kind);
            for (int step = 0; step <= 4; step++) due("20: kind " + kind + " at first", x.why(0, 0, step), 39);
            due("19: no overtime at first", x.minutes(0, 0, 6), 0);
            due("22: no rate at first", x.cents(0, 0), 0);
            due("23: no target at first", x.due(0, kind), 0);
            due("14: no gap any more", x.unmark(0, 0, 1), 4);
            due("26: uncut", x.month(0, 0, 2), 39);
            due("24: close", x.close(), 0);
            due("26: LOW and HIGH are 0 at first", x.month(0, 0, 2), 0);
        }
    }

    // "WORKERS are numbered from 0 on, 30 at most": with all of them there is none behind the last.
    private static void thirtyWorkers() {
        ShiftLedger x = new ShiftLedger();
        for (int w = 0; w < 30; w++) due("2: worker " + w, x.worker(w % 6, 0), w);
        x.surcharge(255, 0, 0, 0);
        int[] none = {30, 31, -1};
        for (int w : none) {
            due("11: absent of worker " + w, x.absent(w, 0, 0), NONE);
            due("12: mark of worker " + w, x.mark(w, 0, 0, 0), NONE);
            due("13: late of worker " + w, x.late(w, 0, 0, 0), NONE);
            due("14: unmark of worker " + w, x.unmark(w, 0, 0), NONE);
            due("15: marked of worker " + w, x.marked(w, 0, 0), NONE);
            due("17: shifts of worker " + w, x.shifts(w, 0, 0), NONE);
            due("18: minute of worker " + w, x.minute(w, 0, 0), NONE);
            due("19: minutes of worker " + w, x.minutes(w, 0, 0), NONE);
            due("20: why of worker " + w, x.why(w, 0, 0), NONE);
            due("21: counts of worker " + w, x.counts(w, 0, 0, 0, 0), NONE);
            due("22: cents of worker " + w, x.cents(w, 0), NONE);
            due("23: due of worker " + w, x.due(w, 0), NONE);
            due("26: month of worker " + w, x.month(w, 0, 0), Long.MIN_VALUE);
        }
        due("12: mark of the last worker", x.mark(29, 0, 0, 0), 1);
        due("12: go of the last worker", x.mark(29, 0, 7, 1), 2);
        due("27: the last worker's group", x.sum(5, 0, 0), 7);
    }

    // "The TIME of minute m of day d is 1440 d + m"
    private static void timesOfMarks() {
        ShiftLedger x = told("0C 1439G 1440C 1578239G");
        int[] want = {0, 1439, 1440, 1578239};
        for (int k = 0; k < 4; k++) due("15: time of mark " + k, x.marked(0, k, 0), want[k]);
        due("15: the last time is minute 1439 of day 1095", x.unmark(0, 1095, 1439), 3);
        due("15: the first time is minute 0 of day 0", x.unmark(0, 0, 0), 2);
    }

    // "each at a TIME, no two at one"
    private static void noTwoAtOneTime() {
        ShiftLedger x = told("1440P");
        x.worker(0, 0);
        for (int sort = 0; sort < 4; sort++) due("12: a second one", x.mark(0, 1, 0, sort), BAD);
        due("15: the first one stays", x.marked(0, 0, 1), 2);
        due("12: minute 1440 of the day ahead is no minute", x.mark(0, 0, 1440, 0), BAD);
        due("12: a minute earlier", x.mark(0, 0, 1439, 0), 2);
        due("12: a minute later", x.mark(0, 1, 1, 0), 3);
        due("12: another worker at that time", x.mark(1, 1, 0, 0), 1);
        due("14: it goes", x.unmark(0, 1, 0), 2);
        due("12: the time is free again", x.mark(0, 1, 0, 3), 3);
        due("15: the new one's sort", x.marked(0, 1, 1), 3);
    }

    // "400 at most"
    private static void fourHundredOfOne() {
        ShiftLedger x = new ShiftLedger();
        x.worker(0, 0);
        for (int i = 0; i < 399; i++) x.mark(0, 1095, 2 * i, i % 2);
        due("12: the 400th", x.mark(0, 1095, 800, 2), 400);
        due("12: the 401st", x.mark(0, 1095, 801, 1), -4);
        due("28: marks of all", x.count(4), 400);
        due("15: the 400th is kept", x.marked(0, 399, 1), 2);
        due("15: there is no 401st", x.marked(0, 400, 1), NONE);
        due("15: another one of the last shift", x.marked(0, 399, 2), 4);
        due("15: it has no end", x.marked(0, 398, 2), 2);
        due("17: all others end", x.shifts(0, 1095, 0), 199);
        due("19: two minutes each", x.minutes(0, 1095, 0), 398);
        due("14: one less", x.unmark(0, 1095, 800), 399);
        due("12: the end of the last one", x.mark(0, 1095, 801, 1), 400);
        due("17: all end", x.shifts(0, 1095, 0), 200);
        due("17: no gap", x.shifts(0, 1095, 1), 0);
        due("19: five minutes more", x.minutes(0, 1095, 0), 398 + 801 - 796);
        fourHundredByRules(x);
    }

    private static void fourHundredByRules(ShiftLedger x) {
        x.rule(0, 0, 5, 0);
        // Two minutes from a multiple of 4 on hold none of 5 rounded up and down; the last one is 796 to 801.
        due("20: round", x.why(0, 1095, 1), 0);
        x.rule(0, 0, 1, 0);
        x.rule(0, 1, 1, 800);
        due("20: frame", x.why(0, 1095, 2), 403 - 2);
        x.rule(0, 2, 0, 7);
        due("20: owed", x.why(0, 1095, 3), 403 - 2 - 7);
        x.rule(0, 3, 301, 0);
        x.rule(0, 4, 101, 0);
        due("20: most", x.why(0, 1095, 4), 301);
        due("19: over", x.minutes(0, 1095, 6), 200);
    }

    // "and 1000 of all": as many as the calls on one object can tell are taken.
    private static void fiveHundredOfAll() {
        ShiftLedger x = new ShiftLedger();
        x.worker(0, 0);
        x.worker(0, 0);
        for (int i = 0; i < 500; i++) due("12: mark " + i, x.mark(i % 2, i, i, 0), i / 2 + 1);
        due("28: marks of all", x.count(4), 500);
    }

    private static void lateOnesAreCounted() {
        ShiftLedger x = told("44640C");
        x.close();
        due("13: late", x.late(0, 0, 0, 0), 2);
        due("13: late, one more", x.late(0, 30, 1439, 0), 3);
        due("28: marks of all", x.count(4), 3);
        due("15: by time", x.marked(0, 2, 0), 44640);
    }

    // "OUT at first .. OUT: COME begins a SHIFT", "All others are DOUBLE"
    private static void outAtFirst() {
        roles("0C", "2");
        roles("0G", "0");
        roles("0P", "0");
        roles("0B", "0");
        roles("0G 1P 2B 3C 4G", "00013");
        roles("3C 4G 5G 6P 7B", "13000");
        roles("3C 4G 5P 6C 7G", "13013");
    }

    // "IN: PAUSE: PAUSED; GO: the SHIFT ends: OUT"
    private static void metIn() {
        roles("0C 1G", "13");
        roles("0C 1P", "24");
        roles("0C 1C 2G", "103");
        roles("0C 1B 2G", "103");
        roles("0C 1P 2B 3C 4B 5P 6B 7G", "14400443");
    }

    // "PAUSED: BACK: IN; GO: the SHIFT ends: OUT"
    private static void metPaused() {
        roles("0C 1P 2G", "143");
        roles("0C 1P 2B 3G", "1443");
        roles("0C 1P 2C 3G", "1403");
        roles("0C 1P 2P 3G", "1403");
        roles("0C 1P 2P 3B 4G", "14043");
        roles("0C 1P 2G 3B 4G", "14300");
        roles("0C 1P 2G 3C 4G", "14313");
    }

    // "All others are DOUBLE: nothing comes of them"
    private static void doublesDoNothing() {
        due("19: as without", told("100C 110C 120B 130G").minutes(0, 0, 0), 30);
        due("19: no rest of it", told("100C 110C 120B 130G").minutes(0, 0, 1), 0);
        due("19: as without", told("90G 95P 97B 100C 130G 140G 150P").minutes(0, 0, 0), 30);
        due("19: a rest from the first pause", told("100C 110P 112P 114C 120B 125B 130G").minutes(0, 0, 1), 10);
        due("19: parts around it", told("100C 110P 112P 114C 120B 125B 130G").minutes(0, 0, 0), 20);
        due("17: doubles are no shifts", told("0G 1P 2B").shifts(0, 0, 0), 0);
        due("17: doubles are no gaps", told("0G 1P 2B").shifts(0, 0, 1), 0);
    }

    // "more than 960 minutes behind the COME of the SHIFT: that SHIFT is a GAP"
    private static void farBehindTheCome() {
        roles("0C 959G", "13");
        roles("0C 960G", "13");
        roles("0C 961G", "20");
        roles("0C 960P", "24");
        roles("0C 961P", "20");
        roles("0C 960P 961G", "240");
        roles("0C 959P 960G", "143");
        roles("0C 500P 960B", "244");
        roles("0C 500P 961B", "240");
        roles("0C 500P 960G", "143");
        roles("0C 500P 961G", "240");
        roles("0C 1P 2B 960G", "1443");
        roles("0C 1P 2B 961G", "2440");
        roles("0C 500C 960G", "103");
        roles("0C 500C 961G", "200");
        due("19: 960 minutes", told("0C 960G").minutes(0, 0, 0), 960);
        due("19: none of a gap", told("0C 961G").minutes(0, 0, 0), 0);
        due("17: a gap", told("0C 961G").shifts(0, 0, 1), 1);
        due("17: none that ends", told("0C 961G").shifts(0, 0, 0), 0);
    }

    private static void farBehindTheComeOverMidnight() {
        roles("1439C 2399G", "13");
        roles("1439C 2400G", "20");
        roles("480C 1440G", "13");
        roles("479C 1440G", "20");
        roles("44639C 45599G", "13");
        roles("44639C 45600G", "20");
        roles("0C 1578239G", "20");
    }

    // "and the MARK is met OUT"
    private static void metOutBehindAGap() {
        roles("0C 961C", "22");
        roles("0C 960C 961G", "200");
        roles("0C 960C 961C 962G", "2013");
        roles("0C 961C 962G", "213");
        roles("0C 1P 961C 962G", "2413");
        roles("0C 961C 1921G", "213");
        roles("0C 961C 1922G", "220");
        roles("0C 961B 962C 963G", "2013");
        roles("0C 961G 962P 963C 964P 965G", "200143");
        roles("0C 961C 1922C 2883C", "2222");
    }

    // "A SHIFT that does not end is a GAP"
    private static void shiftsWithoutEnd() {
        roles("1578239C", "2");
        roles("5C 6P 7B", "244");
        roles("5C 6G 7C", "132");
        roles("5C 6G 7C 8P", "1324");
        due("17: a gap on the last day", told("1578239C").shifts(0, 1095, 1), 1);
        due("19: nothing of a gap's parts", told("5C 6P 7B").minutes(0, 0, 0), 0);
        due("19: nothing of a gap's rests", told("5C 6P 7B").minutes(0, 0, 1), 0);
        due("18: class 0 in a gap", told("5C 6P 7B").minute(0, 0, 5), 0);
    }

    // "OUT: COME begins a SHIFT, of its day"
    private static void dayOfAShift() {
        ShiftLedger x = told("1439C 1440G 1441C 1500P 1510B 1600G 2879C 2885G 2886C");
        int[][] ends = {{0, 1, 0}, {1, 2, 0}, {2, 0, 1}, {3, 0, 0}};
        for (int[] a : ends) {
            due("17: shifts that end of day " + a[0], x.shifts(0, a[0], 0), a[1]);
            due("17: gaps of day " + a[0], x.shifts(0, a[0], 1), a[2]);
        }
        due("19: day 0", x.minutes(0, 0, 0), 1);
        due("19: day 1", x.minutes(0, 1, 0), 59 + 90 + 6);
        due("19: rests of day 0", x.minutes(0, 0, 1), 0);
        due("19: rests of day 1", x.minutes(0, 1, 1), 10);
        due("18: its last minute is the day's it began", x.minute(0, 1, 1444), 7);
        due("18: not the day's it ends", x.minute(0, 2, 4), 0);
        ShiftLedger gap = told("1400C 2400C 2401G");
        due("17: the gap is of the day it began", gap.shifts(0, 0, 1), 1);
        due("17: the next one of its own", gap.shifts(0, 1, 0), 1);
        due("17: no gap of the second day", gap.shifts(0, 1, 1), 0);
    }

    // "PARTS, from COME or BACK to the next PAUSE or GO .., and RESTS, from PAUSE to BACK"
    private static void partsAndRests() {
        ShiftLedger x = told("100C 110P 120B 121P 122B 130G");
        int[][] want = {{99, 0}, {100, 7}, {109, 7}, {110, 1}, {119, 1}, {120, 7}, {121, 1}, {122, 7}, {129, 7}, {130, 0}};
        for (int[] a : want) due("18: class of minute " + a[0], x.minute(0, 0, a[0]), a[1]);
        due("19: parts", x.minutes(0, 0, 7), 10 + 1 + 8);
        due("19: rests", x.minutes(0, 0, 1), 10 + 1);
    }

    // "a PAUSE with GO behind it has none; the SHIFT's END is that PAUSE then": with doubles in between as well.
    private static void pauseWithGoBehindIt() {
        String[] shifts = {"100C 118P 126G", "100C 118P 120P 126G", "100C 118P 120C 126G", "100C 118P 119C 120P 126G"};
        for (String marks : shifts) {
            ShiftLedger x = told(marks);
            due("19: no rest, " + marks, x.minutes(0, 0, 1), 0);
            due("19: parts, " + marks, x.minutes(0, 0, 0), 18);
            due("18: behind the pause, " + marks, x.minute(0, 0, 118), 0);
            due("18: ahead of the pause, " + marks, x.minute(0, 0, 117), 7);
            x.rule(0, 0, 5, 0);
            due("20: the end rounded down is the pause's, " + marks, x.why(0, 0, 1), 15);
        }
        ShiftLedger back = told("100C 110P 112B 118P 126G");
        due("19: the rest ahead stays", back.minutes(0, 0, 1), 2);
        due("19: parts", back.minutes(0, 0, 0), 16);
        due("18: behind the last pause", back.minute(0, 0, 118), 0);
        ShiftLedger go = told("100C 110P 112B 113B 114C 126G");
        due("19: the end is the go", go.minutes(0, 0, 0), 24);
    }

    // "marks that come in any order are paired"
    private static void anyOrder() {
        String[] marks = {"100C", "110P", "120B", "130G"};
        for (int code = 0; code < 256; code++) {
            int[] order = {code & 3, code >> 2 & 3, code >> 4 & 3, code >> 6};
            if ((1 << order[0] | 1 << order[1] | 1 << order[2] | 1 << order[3]) == 15) {
                String all = String.join(" ", marks[order[0]], marks[order[1]], marks[order[2]], marks[order[3]]);
                roles(all, "1443");
                due("19: " + all, told(all).minutes(0, 0, 0), 20);
            }
        }
    }

    // "The MARK at a TIME goes": those that are left are paired anew.
    private static void oneLess() {
        String[] gone = {"100", "110", "120", "130"};
        String[] want = {"000", "103", "143", "244"};
        int[] paid = {0, 30, 10, 0};
        for (int i = 0; i < 4; i++) {
            ShiftLedger x = told("100C 110P 120B 130G");
            due("14: less " + gone[i], x.unmark(0, 0, Integer.parseInt(gone[i])), 3);
            due("15: roles less " + gone[i], Integer.parseInt(rolesOf(x)), Integer.parseInt(want[i]));
            due("19: paid less " + gone[i], x.minutes(0, 0, 0), paid[i]);
        }
    }
}
