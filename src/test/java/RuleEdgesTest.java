/** Part 2 of the terms at its edges: each rule where it begins to act, and where it leaves all or nothing. */
public final class RuleEdgesTest {
    private static final int NONE = -1;
    private static final int ROUND = 0, FRAME = 1, OWED = 2, MOST = 3, OVER = 4;
    private static final String SORTS = "CGPB";
    private static int wrong = 0;

    private static void due(String call, long got, long want) {
        if (got != want) {
            wrong++;
            System.out.println(call + " answered " + got + ", due is " + want);
        }
    }

    public static void main(String[] args) {
        minutesOfADay();
        aMinuteIsFromItsBeginningToItsEnd();
        roundSteps();
        roundByOne();
        roundOverMidnight();
        roundOfEachShift();
        roundLeavesRests();
        roundFromTheEnd();
        frameEdges();
        frameWithoutB();
        frameOverMidnight();
        frameLeavesWhatWentAndRests();
        owedBeginsBehindA();
        owedBelowB();
        owedTakesAll();
        owedWithoutB();
        owedRests();
        owedTakesTheLatest();
        mostEdges();
        mostOverShifts();
        overEdges();
        overOverShifts();
        eachStepCountsWhatTheOthersLeft();
        eachKindHasItsOwn();
        toldAgain();
        stepsAndClasses();
        otherDaysAndWorkers();
        theMostCutDay();
        System.out.println(wrong == 0 ? "all answers are as due" : wrong + " answers are not as due");
        if (wrong != 0) System.exit(1);
    }

    /** A worker with marks, each a time and the first letter of its sort, as in "480C 720P 745B 1020G". */
    private static ShiftLedger told(String marks) {
        ShiftLedger x = new ShiftLedger();
        x.worker(0, 0);
        for (String mark : marks.split(" ")) {
            int time = Integer.parseInt(mark.substring(0, mark.length() - 1));
            x.mark(0, time / 1440, time % 1440, SORTS.indexOf(mark.charAt(mark.length() - 1)));
        }
        return x;
    }

    /** The classes of day 0 in runs, each its first minute and its class; ahead of them and from the last on it is 0. */
    private static void runs(String which, ShiftLedger x, int... run) {
        int[] amounts = new int[8];
        due("18: " + which + ", ahead of all", x.minute(0, 0, run[0] - 1), run[0] == 0 ? NONE : 0);
        for (int i = 0; i + 3 < run.length; i += 2) {
            due("18: " + which + ", minute " + run[i], x.minute(0, 0, run[i]), run[i + 1]);
            due("18: " + which + ", minute " + (run[i + 2] - 1), x.minute(0, 0, run[i + 2] - 1), run[i + 1]);
            amounts[run[i + 1]] += run[i + 2] - run[i];
        }
        due("18: " + which + ", behind all", x.minute(0, 0, run[run.length - 2]), 0);
        for (int c = 1; c <= 7; c++) due("19: " + which + ", minutes of class " + c, x.minutes(0, 0, c), amounts[c]);
        due("19: " + which + ", minutes that are paid", x.minutes(0, 0, 0), amounts[6] + amounts[7]);
        int there = amounts[6] + amounts[7];
        for (int step = 4; step >= 0; step--) {
            due("20: " + which + ", behind step " + step, x.why(0, 0, step), there);
            there += amounts[step + 1];
        }
    }

    // "A MINUTE of a day .. is one of 0 .. 2879"
    private static void minutesOfADay() {
        ShiftLedger x = told("0C 1G 1439C 2399G");
        x.surcharge(255, 0, 0, 1);
        due("18: below the first", x.minute(0, 0, -1), NONE);
        due("18: the first", x.minute(0, 0, 0), 7);
        due("18: behind it", x.minute(0, 0, 1), 0);
        due("18: the last of the day", x.minute(0, 0, 1439), 7);
        due("18: the first of the next day", x.minute(0, 0, 1440), 7);
        due("18: the last that can be in a shift", x.minute(0, 0, 2398), 7);
        due("18: behind it", x.minute(0, 0, 2399), 0);
        due("18: the last", x.minute(0, 0, 2879), 0);
        due("18: above the last", x.minute(0, 0, 2880), NONE);
        due("21: the last that can be in a shift", x.counts(0, 0, 2398, 0, 0), 1);
        due("21: the last", x.counts(0, 0, 2879, 0, 0), 0);
        due("21: above the last", x.counts(0, 0, 2880, 0, 0), NONE);
        due("18: the next day has none of it", x.minute(0, 1, 0), 0);
        ShiftLedger last = told("1577280C 1578239G");
        due("18: the last day", last.minute(0, 1095, 479), 0);
        due("18: the last day", last.minute(0, 1095, 480), 7);
        due("18: the last day", last.minute(0, 1095, 1438), 7);
        due("18: the last day", last.minute(0, 1095, 1439), 0);
        due("18: behind the last day", last.minute(0, 1095, 2879), 0);
        due("18: the day ahead of the last", last.minute(0, 1094, 1920), 0);
    }

    // "it stands for the TIME from its beginning to its end"
    private static void aMinuteIsFromItsBeginningToItsEnd() {
        runs("one minute", told("100C 101G"), 100, 7, 101, 0);
        runs("one minute's rest", told("100C 101P 102B 103G"), 100, 7, 101, 1, 102, 7, 103, 0);
        runs("none between two shifts", told("100C 101G 102C 103G"), 100, 7, 101, 0, 102, 7, 103, 0);
    }

    private static ShiftLedger rounded(int step, String marks) {
        ShiftLedger x = told(marks);
        x.rule(0, ROUND, step, 0);
        return x;
    }

    // "those ahead of its COME's MINUTE rounded up to a multiple of a go, and those from its END's rounded down .."
    private static void roundSteps() {
        int[] steps = {5, 10, 15, 30};
        for (int a : steps) {
            String which = "round " + a;
            int b = 2 * a;
            int c = 3 * a;
            int d = 4 * a;
            runs(which + ", multiples", rounded(a, b + "C " + d + "G"), b, 7, d, 0);
            runs(which + ", come a minute late", rounded(a, (b + 1) + "C " + d + "G"), b + 1, 2, c, 7, d, 0);
            runs(which + ", come a minute early", rounded(a, (b - 1) + "C " + d + "G"), b - 1, 2, b, 7, d, 0);
            runs(which + ", go a minute late", rounded(a, b + "C " + (d + 1) + "G"), b, 7, d, 2, d + 1, 0);
            runs(which + ", go a minute early", rounded(a, b + "C " + (d - 1) + "G"), b, 7, c, 2, d - 1, 0);
            runs(which + ", both to one", rounded(a, (b + 1) + "C " + (d - 1) + "G"), b + 1, 2, d - 1, 0);
            runs(which + ", between two", rounded(a, (b + 1) + "C " + (c - 1) + "G"), b + 1, 2, c - 1, 0);
            runs(which + ", to the next one", rounded(a, (b + 1) + "C " + c + "G"), b + 1, 2, c, 0);
            runs(which + ", from one on", rounded(a, b + "C " + (c - 1) + "G"), b, 2, c - 1, 0);
            runs(which + ", at the day's beginning", rounded(a, "0C " + (a + 1) + "G"), 0, 7, a, 2, a + 1, 0);
            runs(which + ", a minute behind it", rounded(a, "1C " + b + "G"), 1, 2, a, 7, b, 0);
        }
    }

    // "ROUND a (1 at first)"
    private static void roundByOne() {
        runs("round 1", rounded(1, "101C 102P 103B 204G"), 101, 7, 102, 1, 103, 7, 204, 0);
        ShiftLedger back = rounded(30, "101C 204G");
        runs("round 30", back, 101, 2, 120, 7, 180, 2, 204, 0);
        back.rule(0, ROUND, 1, 0);
        runs("round 1 again", back, 101, 7, 204, 0);
    }

    private static void roundOverMidnight() {
        runs("over midnight", rounded(30, "1411C 1501G"), 1411, 2, 1440, 7, 1500, 2, 1501, 0);
        runs("up to midnight", rounded(5, "1439C 1445G"), 1439, 2, 1440, 7, 1445, 0);
        runs("down to midnight", rounded(15, "1425C 1454G"), 1425, 7, 1440, 2, 1454, 0);
        runs("the longest and latest", rounded(30, "1439C 2399G"), 1439, 2, 1440, 7, 2370, 2, 2399, 0);
    }

    // "of each SHIFT": what one shift's ends are rounded to is nothing to another one.
    private static void roundOfEachShift() {
        runs("each by itself", rounded(30, "0C 45G 50C 100G"), 0, 7, 30, 2, 45, 0, 50, 2, 60, 7, 90, 2, 100, 0);
        runs("the second goes, the first stays", rounded(30, "0C 60G 61C 62G"), 0, 7, 60, 0, 61, 2, 62, 0);
        runs("the first goes, the second stays", rounded(30, "0C 29G 30C 60G"), 0, 2, 29, 0, 30, 7, 60, 0);
        runs("both in one step", rounded(30, "1C 10G 12C 60G"), 1, 2, 10, 0, 12, 2, 30, 7, 60, 0);
    }

    // "1 in a REST": no rule acts on a rest.
    private static void roundLeavesRests() {
        runs("a rest ahead", rounded(30, "1C 5P 25B 60G"), 1, 2, 5, 1, 25, 2, 30, 7, 60, 0);
        runs("a rest over the step", rounded(30, "1C 5P 35B 60G"), 1, 2, 5, 1, 35, 7, 60, 0);
        runs("a rest behind", rounded(30, "0C 65P 70B 80G"), 0, 7, 60, 2, 65, 1, 70, 2, 80, 0);
        runs("a rest over the last step", rounded(30, "0C 50P 70B 80G"), 0, 7, 50, 1, 70, 2, 80, 0);
        runs("parts in between are not rounded", rounded(30, "0C 31P 44B 90G"), 0, 7, 31, 1, 44, 7, 90, 0);
    }

    // "the SHIFT's END is that PAUSE then, else the GO"
    private static void roundFromTheEnd() {
        runs("the end is the pause", rounded(15, "0C 44P 61G"), 0, 7, 30, 2, 44, 0);
        runs("the end is the go", rounded(15, "0C 44P 46B 61G"), 0, 7, 44, 1, 46, 7, 60, 2, 61, 0);
    }

    private static ShiftLedger ruled(int what, int a, int b, String marks) {
        ShiftLedger x = told(marks);
        x.rule(0, what, a, b);
        return x;
    }

    // "FRAME, if b is above 0: those below a go, and those from b on"
    private static void frameEdges() {
        String marks = "100C 200G";
        runs("the shift itself", ruled(FRAME, 100, 200, marks), 100, 7, 200, 0);
        runs("a minute wider", ruled(FRAME, 99, 201, marks), 100, 7, 200, 0);
        runs("a minute later", ruled(FRAME, 101, 200, marks), 100, 3, 101, 7, 200, 0);
        runs("a minute earlier", ruled(FRAME, 100, 199, marks), 100, 7, 199, 3, 200, 0);
        runs("the first minute", ruled(FRAME, 0, 101, marks), 100, 7, 101, 3, 200, 0);
        runs("the last minute", ruled(FRAME, 199, 2880, marks), 100, 3, 199, 7, 200, 0);
        runs("ahead of it", ruled(FRAME, 0, 100, marks), 100, 3, 200, 0);
        runs("behind it", ruled(FRAME, 200, 2880, marks), 100, 3, 200, 0);
        runs("empty", ruled(FRAME, 150, 150, marks), 100, 3, 200, 0);
        runs("a above b", ruled(FRAME, 151, 150, marks), 100, 3, 200, 0);
        runs("a far above b", ruled(FRAME, 2880, 1, marks), 100, 3, 200, 0);
        runs("the widest", ruled(FRAME, 0, 2880, marks), 100, 7, 200, 0);
        runs("the latest", ruled(FRAME, 2880, 2880, marks), 100, 3, 200, 0);
        runs("minute 0", ruled(FRAME, 0, 1, "0C 10G"), 0, 7, 1, 3, 10, 0);
        runs("from minute 1 on", ruled(FRAME, 1, 10, "0C 10G"), 0, 3, 1, 7, 10, 0);
    }

    private static void frameWithoutB() {
        runs("b is 0", ruled(FRAME, 150, 0, "100C 200G"), 100, 7, 200, 0);
        runs("b is 0, a the greatest", ruled(FRAME, 2880, 0, "100C 200G"), 100, 7, 200, 0);
        runs("b is 1", ruled(FRAME, 0, 1, "100C 200G"), 100, 3, 200, 0);
    }

    private static void frameOverMidnight() {
        String marks = "1400C 1500G";
        runs("to midnight", ruled(FRAME, 0, 1440, marks), 1400, 7, 1440, 3, 1500, 0);
        runs("a minute behind midnight", ruled(FRAME, 0, 1441, marks), 1400, 7, 1441, 3, 1500, 0);
        runs("from midnight on", ruled(FRAME, 1440, 2880, marks), 1400, 3, 1440, 7, 1500, 0);
        runs("to the last minute", ruled(FRAME, 2398, 2399, "1439C 2399G"), 1439, 3, 2398, 7, 2399, 0);
    }

    private static void frameLeavesWhatWentAndRests() {
        ShiftLedger x = rounded(30, "1C 100G");
        x.rule(0, FRAME, 40, 80);
        runs("what went by ROUND", x, 1, 2, 30, 3, 40, 7, 80, 3, 90, 2, 100, 0);
        runs("rests", ruled(FRAME, 115, 145, "100C 110P 120B 140P 150B 160G"), 100, 3, 110, 1, 120, 7, 140, 1, 150, 3, 160, 0);
    }

    /** 190 minutes are there, 10 in a rest. */
    private static final String RESTED = "100C 200P 210B 300G";

    // "if more than a are there"
    private static void owedBeginsBehindA() {
        runs("one more than a", ruled(OWED, 189, 30, RESTED), 100, 7, 200, 1, 210, 7, 280, 4, 300, 0);
        runs("a", ruled(OWED, 190, 30, RESTED), 100, 7, 200, 1, 210, 7, 300, 0);
        runs("one less than a", ruled(OWED, 191, 30, RESTED), 100, 7, 200, 1, 210, 7, 300, 0);
        runs("far less than a", ruled(OWED, 2880, 600, RESTED), 100, 7, 200, 1, 210, 7, 300, 0);
        runs("a is 0", ruled(OWED, 0, 30, RESTED), 100, 7, 200, 1, 210, 7, 280, 4, 300, 0);
        runs("a is 0, one is there", ruled(OWED, 0, 1, "100C 101G"), 100, 4, 101, 0);
        runs("a is 1, one is there", ruled(OWED, 1, 1, "100C 101G"), 100, 7, 101, 0);
        ShiftLedger x = ruled(OWED, 49, 30, RESTED);
        x.rule(0, FRAME, 100, 150);
        runs("what is there behind the frame", x, 100, 7, 130, 4, 150, 3, 200, 1, 210, 3, 300, 0);
        x.rule(0, OWED, 50, 30);
        runs("what is there behind the frame", x, 100, 7, 150, 3, 200, 1, 210, 3, 300, 0);
    }

    // "and the MINUTES in RESTS of the day are r, less than b"
    private static void owedBelowB() {
        runs("r is b", ruled(OWED, 0, 10, RESTED), 100, 7, 200, 1, 210, 7, 300, 0);
        runs("r is above b", ruled(OWED, 0, 9, RESTED), 100, 7, 200, 1, 210, 7, 300, 0);
        runs("r is one below b", ruled(OWED, 0, 11, RESTED), 100, 7, 200, 1, 210, 7, 299, 4, 300, 0);
    }

    // "the b - r latest ones go (all, if there are less)"
    private static void owedTakesAll() {
        runs("all but two", ruled(OWED, 0, 198, RESTED), 100, 7, 102, 4, 200, 1, 210, 4, 300, 0);
        runs("all but one", ruled(OWED, 0, 199, RESTED), 100, 7, 101, 4, 200, 1, 210, 4, 300, 0);
        runs("all", ruled(OWED, 0, 200, RESTED), 100, 4, 200, 1, 210, 4, 300, 0);
        runs("all, there are less", ruled(OWED, 0, 201, RESTED), 100, 4, 200, 1, 210, 4, 300, 0);
        runs("all, there are far less", ruled(OWED, 0, 600, RESTED), 100, 4, 200, 1, 210, 4, 300, 0);
    }

    private static void owedWithoutB() {
        runs("b is 0", ruled(OWED, 0, 0, "100C 200G"), 100, 7, 200, 0);
        runs("b is 1", ruled(OWED, 0, 1, "100C 200G"), 100, 7, 199, 4, 200, 0);
    }

    // Rests are those of shifts of the day that end, wherever a frame is.
    private static void owedRests() {
        runs("rests of both shifts", ruled(OWED, 0, 12, "100C 110P 115B 120G 200C 210P 215B 220G"),
            100, 7, 110, 1, 115, 7, 120, 0, 200, 7, 210, 1, 215, 7, 218, 4, 220, 0);
        runs("none of a gap", ruled(OWED, 0, 15, "0C 10P 20B 961C 1000P 1010B 1100G"),
            961, 7, 1000, 1, 1010, 7, 1095, 4, 1100, 0);
        runs("none of a pause with go behind it", ruled(OWED, 0, 10, "100C 200P 210G"), 100, 7, 190, 4, 200, 0);
        runs("over midnight", ruled(OWED, 0, 12, "1430C 1435P 1445B 1500G"), 1430, 7, 1435, 1, 1445, 7, 1498, 4, 1500, 0);
        runs("none of the next day", ruled(OWED, 0, 5, "1400C 1450G 1500C 1510P 1520B 1530G"), 1400, 7, 1445, 4, 1450, 0);
        ShiftLedger x = ruled(OWED, 0, 15, RESTED);
        x.rule(0, FRAME, 210, 2880);
        runs("outside the frame", x, 100, 3, 200, 1, 210, 7, 295, 4, 300, 0);
        x.rule(0, FRAME, 0, 200);
        runs("outside the frame", x, 100, 7, 195, 4, 200, 1, 210, 3, 300, 0);
    }

    private static void owedTakesTheLatest() {
        String marks = "100C 110G 200C 210G 300C 310G";
        runs("the last shift", ruled(OWED, 0, 10, marks), 100, 7, 110, 0, 200, 7, 210, 0, 300, 4, 310, 0);
        runs("a minute more", ruled(OWED, 0, 11, marks), 100, 7, 110, 0, 200, 7, 209, 4, 210, 0, 300, 4, 310, 0);
        runs("a minute less", ruled(OWED, 0, 9, marks), 100, 7, 110, 0, 200, 7, 210, 0, 300, 7, 301, 4, 310, 0);
        ShiftLedger x = ruled(OWED, 0, 10, marks);
        x.rule(0, FRAME, 0, 305);
        runs("the latest of those there", x, 100, 7, 110, 0, 200, 7, 205, 4, 210, 0, 300, 4, 305, 3, 310, 0);
    }

    // "MOST, if a is above 0: all behind the first a that are there go"
    private static void mostEdges() {
        runs("0", ruled(MOST, 0, 0, RESTED), 100, 7, 200, 1, 210, 7, 300, 0);
        runs("1", ruled(MOST, 1, 0, RESTED), 100, 7, 101, 5, 200, 1, 210, 5, 300, 0);
        runs("one less than the first part", ruled(MOST, 99, 0, RESTED), 100, 7, 199, 5, 200, 1, 210, 5, 300, 0);
        runs("the first part", ruled(MOST, 100, 0, RESTED), 100, 7, 200, 1, 210, 5, 300, 0);
        runs("one more", ruled(MOST, 101, 0, RESTED), 100, 7, 200, 1, 210, 7, 211, 5, 300, 0);
        runs("all but one", ruled(MOST, 189, 0, RESTED), 100, 7, 200, 1, 210, 7, 299, 5, 300, 0);
        runs("all", ruled(MOST, 190, 0, RESTED), 100, 7, 200, 1, 210, 7, 300, 0);
        runs("more than all", ruled(MOST, 191, 0, RESTED), 100, 7, 200, 1, 210, 7, 300, 0);
        runs("the greatest", ruled(MOST, 2880, 0, RESTED), 100, 7, 200, 1, 210, 7, 300, 0);
    }

    private static void mostOverShifts() {
        String marks = "100C 110G 200C 210G 300C 310G";
        runs("the first shift", ruled(MOST, 10, 0, marks), 100, 7, 110, 0, 200, 5, 210, 0, 300, 5, 310, 0);
        runs("the second, too", ruled(MOST, 15, 0, marks), 100, 7, 110, 0, 200, 7, 205, 5, 210, 0, 300, 5, 310, 0);
        ShiftLedger x = ruled(MOST, 10, 0, marks);
        x.rule(0, FRAME, 105, 2880);
        runs("the first of those there", x, 100, 3, 105, 7, 110, 0, 200, 7, 205, 5, 210, 0, 300, 5, 310, 0);
    }

    // "OVER, if a is above 0: all behind the first a that are there are OVERTIME"
    private static void overEdges() {
        runs("0", ruled(OVER, 0, 20000, RESTED), 100, 7, 200, 1, 210, 7, 300, 0);
        runs("1", ruled(OVER, 1, 0, RESTED), 100, 7, 101, 6, 200, 1, 210, 6, 300, 0);
        runs("the first part", ruled(OVER, 100, 0, RESTED), 100, 7, 200, 1, 210, 6, 300, 0);
        runs("one more", ruled(OVER, 101, 5, RESTED), 100, 7, 200, 1, 210, 7, 211, 6, 300, 0);
        runs("all but one", ruled(OVER, 189, 0, RESTED), 100, 7, 200, 1, 210, 7, 299, 6, 300, 0);
        runs("all", ruled(OVER, 190, 0, RESTED), 100, 7, 200, 1, 210, 7, 300, 0);
        runs("more than all", ruled(OVER, 191, 0, RESTED), 100, 7, 200, 1, 210, 7, 300, 0);
        runs("the greatest", ruled(OVER, 2880, 20000, RESTED), 100, 7, 200, 1, 210, 7, 300, 0);
    }

    private static void overOverShifts() {
        String marks = "100C 110G 200C 210G 1400C 1500G";
        runs("behind two shifts", ruled(OVER, 60, 0, marks), 100, 7, 110, 0, 200, 7, 210, 0, 1400, 7, 1440, 6, 1500, 0);
        ShiftLedger x = ruled(OVER, 10, 0, marks);
        x.rule(0, FRAME, 105, 1410);
        runs("the first of those there", x, 100, 3, 105, 7, 110, 0, 200, 7, 205, 6, 210, 0, 1400, 6, 1410, 3, 1500, 0);
    }

    // "by the RULES of its KIND, in this order"
    private static void eachStepCountsWhatTheOthersLeft() {
        ShiftLedger x = ruled(OWED, 0, 30, RESTED);
        x.rule(0, MOST, 170, 0);
        runs("most is what owed left", x, 100, 7, 200, 1, 210, 7, 280, 4, 300, 0);
        x.rule(0, MOST, 169, 0);
        runs("most is one less", x, 100, 7, 200, 1, 210, 7, 279, 5, 280, 4, 300, 0);
        x.rule(0, OVER, 169, 0);
        runs("over is what most left", x, 100, 7, 200, 1, 210, 7, 279, 5, 280, 4, 300, 0);
        x.rule(0, OVER, 168, 0);
        runs("over is one less", x, 100, 7, 200, 1, 210, 7, 278, 6, 279, 5, 280, 4, 300, 0);
        x.rule(0, FRAME, 101, 2880);
        runs("a frame moves all of them", x, 100, 3, 101, 7, 200, 1, 210, 7, 279, 6, 280, 4, 300, 0);
        x.rule(0, ROUND, 30, 0);
        runs("round ahead of the frame", x, 100, 2, 120, 7, 200, 1, 210, 7, 280, 4, 300, 0);
        x.rule(0, FRAME, 0, 200);
        x.rule(0, OWED, 80, 30);
        runs("owed does not begin", x, 100, 2, 120, 7, 200, 1, 210, 3, 300, 0);
        x.rule(0, OWED, 79, 30);
        runs("owed begins", x, 100, 2, 120, 7, 180, 4, 200, 1, 210, 3, 300, 0);
    }

    private static void eachKindHasItsOwn() {
        ShiftLedger x = told("100C 200G");
        for (int kind = 0; kind < 8; kind++) x.rule(kind, MOST, 10 + kind, 0);
        for (int kind = 0; kind < 8; kind++) {
            x.kind(0, 0, kind);
            due("20: the rule of kind " + kind, x.why(0, 0, 4), 10 + kind);
        }
        x.kind(0, 7, 5);
        due("20: no feast yet", x.why(0, 0, 4), 17);
        x.feast(0);
        due("20: the kind of feasts", x.why(0, 0, 4), 15);
        x.kind(0, 0, 2);
        due("20: the weekday of a feast does not matter", x.why(0, 0, 4), 15);
    }

    private static void toldAgain() {
        ShiftLedger x = ruled(MOST, 50, 0, "100C 200G");
        x.rule(0, MOST, 60, 0);
        due("20: the later one, greater", x.why(0, 0, 4), 60);
        x.rule(0, MOST, 40, 0);
        due("20: the later one, smaller", x.why(0, 0, 4), 40);
        x.rule(0, FRAME, 110, 190);
        x.rule(0, FRAME, 0, 150);
        due("20: no frame is left of the earlier one", x.why(0, 0, 2), 50);
        x.rule(0, FRAME, 130, 0);
        due("20: no frame", x.why(0, 0, 2), 100);
    }

    // "CLASS 1 .. 7 (0: that are PAID)", "behind k steps: 0 RAW, 1 ROUND, 2 FRAME, 3 OWED, 4 MOST"
    private static void stepsAndClasses() {
        ShiftLedger x = told("100C 200G");
        due("19: class below 0", x.minutes(0, 0, -1), NONE);
        due("19: class 7", x.minutes(0, 0, 7), 100);
        due("19: class above 7", x.minutes(0, 0, 8), NONE);
        due("20: step below 0", x.why(0, 0, -1), NONE);
        due("20: step 4", x.why(0, 0, 4), 100);
        due("20: step above 4", x.why(0, 0, 5), NONE);
        ShiftLedger none = told("100G");
        for (int c = 0; c <= 7; c++) due("19: a day without shifts", none.minutes(0, 0, c), 0);
        for (int step = 0; step <= 4; step++) due("20: a day without shifts", none.why(0, 0, step), 0);
    }

    private static void otherDaysAndWorkers() {
        ShiftLedger x = told("100C 200G 1540C 1600G");
        x.worker(0, 0);
        x.mark(1, 0, 100, 0);
        x.mark(1, 0, 130, 1);
        x.rule(0, MOST, 40, 0);
        due("20: each day its own", x.why(0, 0, 4), 40);
        due("20: each day its own", x.why(0, 1, 4), 40);
        due("20: each worker's own", x.why(1, 0, 4), 30);
        due("18: the next day's shift is none of this day", x.minute(0, 0, 1540), 0);
        due("18: it is of its own", x.minute(0, 1, 100), 7);
        due("18: this day's shift is none of the next", x.minute(0, 1, 199), 0);
    }

    /** 400 marks of one day, each shift cut at both its ends, and the day by all rules. */
    private static void theMostCutDay() {
        ShiftLedger x = new ShiftLedger();
        x.worker(0, 0);
        for (int j = 0; j < 144; j++) {
            x.mark(0, 0, 10 * j + 4, 0);
            x.mark(0, (10 * j + 11) / 1440, (10 * j + 11) % 1440, 1);
            if (j % 2 == 1 && j < 112) {
                x.mark(0, 0, 10 * j + 6, 2);
                x.mark(0, 0, 10 * j + 8, 3);
            }
        }
        due("28: marks", x.count(4), 400);
        due("17: shifts", x.shifts(0, 0, 0), 144);
        x.rule(0, ROUND, 5, 0);
        x.rule(0, FRAME, 7, 1437);
        x.rule(0, OWED, 602, 116);
        x.rule(0, MOST, 500, 0);
        x.rule(0, OVER, 400, 0);
        int[] steps = {144 * 7 - 112, 144 * 5 - 112, 603, 599, 500};
        for (int step = 0; step <= 4; step++) due("20: the most cut day, step " + step, x.why(0, 0, step), steps[step]);
        int[] amounts = {500, 112, 288, 5, 4, 99, 100, 400};
        for (int c = 0; c <= 7; c++) due("19: the most cut day, class " + c, x.minutes(0, 0, c), amounts[c]);
        int[][] want = {{4, 2}, {5, 3}, {7, 7}, {10, 2}, {15, 7}, {16, 1}, {18, 7}, {20, 2}, {1427, 5}, {1428, 4},
            {1430, 2}, {1435, 4}, {1436, 4}, {1437, 3}, {1439, 3}, {1440, 2}, {1441, 0}};
        for (int[] a : want) due("18: the most cut day, minute " + a[0], x.minute(0, 0, a[0]), a[1]);
        x.rate(0, 0, 60);
        due("22: the most cut day", x.cents(0, 0), 500);
    }
}
