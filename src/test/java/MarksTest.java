/** Promises 12 to 15: marks. */
public final class MarksTest {
    private static final int NONE = -1, BAD = -2, STATE = -3, FULL = -4;
    private static final int LEAST = Integer.MIN_VALUE, GREATEST = Integer.MAX_VALUE;
    private static final int COME = 0, GO = 1, PAUSE = 2, BACK = 3;
    private static int wrong = 0;

    private static void due(String call, long got, long want) {
        if (got != want) {
            wrong++;
            System.out.println(call + " answered " + got + ", due is " + want);
        }
    }

    public static void main(String[] args) {
        marks();
        fullOfOne();
        late();
        lateWhenAllAreClosed();
        unmark();
        markedTimes();
        pairs();
        doubles();
        gaps();
        System.out.println(wrong == 0 ? "all answers are as due" : wrong + " answers are not as due");
        if (wrong != 0) System.exit(1);
    }

    private static void marks() {
        ShiftLedger x = new ShiftLedger();
        due("12: no worker", x.mark(0, 0, 0, 0), NONE);
        x.worker(0, 3);
        x.worker(0, 0);
        due("12: no worker", x.mark(2, 0, 0, 0), NONE);
        due("12: no worker", x.mark(-1, 0, 0, 0), NONE);
        due("12: no day", x.mark(0, -1, 0, 0), NONE);
        due("12: no day", x.mark(0, 1096, 0, 0), NONE);
        due("12: no day", x.mark(0, GREATEST, 0, 0), NONE);
        due("12: NONE goes ahead of BAD", x.mark(0, 1096, -1, 9), NONE);
        due("12: minute", x.mark(0, 3, -1, 0), BAD);
        due("12: minute", x.mark(0, 3, 1440, 0), BAD);
        due("12: sort", x.mark(0, 3, 0, -1), BAD);
        due("12: sort", x.mark(0, 3, 0, 4), BAD);
        due("12: ahead of first", x.mark(0, 2, 1439, 0), BAD);
        due("12: first day, minute 0", x.mark(0, 3, 0, 3), 1);
        due("12: last minute", x.mark(0, 3, 1439, 2), 2);
        due("12: last day", x.mark(0, 1095, 1439, 1), 3);
        due("12: there is one", x.mark(0, 3, 0, 0), BAD);
        due("12: there is one", x.mark(0, 1095, 1439, 1), BAD);
        due("12: another worker at that time", x.mark(1, 3, 0, 0), 1);
        due("12: in between", x.mark(0, 4, 0, 0), 4);
        due("12: of all", x.count(4), 5);
        ShiftLedger y = new ShiftLedger();
        y.worker(0, 2);
        y.close();
        due("12: closed", y.mark(0, 30, 1439, 0), STATE);
        due("12: open", y.mark(0, 31, 0, 0), 1);
        due("12: BAD goes ahead of STATE", y.mark(0, 1, 0, 0), BAD);
        due("12: BAD goes ahead of STATE", y.mark(0, 2, 1440, 0), BAD);
        due("12: refusals change nothing", y.count(4), 1);
    }

    private static void fullOfOne() {
        ShiftLedger x = new ShiftLedger();
        x.worker(0, 0);
        x.worker(0, 0);
        for (int i = 0; i < 400; i++) {
            // From the middle to both sides, so that marks are put ahead of others as well.
            int time = 700000 + (i % 2 == 0 ? i : -i);
            due("12: mark " + i, x.mark(0, time / 1440, time % 1440, i % 4), i + 1);
        }
        due("12: full", x.mark(0, 0, 0, 0), FULL);
        due("12: BAD goes ahead of FULL", x.mark(0, 700000 / 1440, 700000 % 1440, 0), BAD);
        due("12: NONE goes ahead of FULL", x.mark(0, 1096, 0, 0), NONE);
        due("12: another one is not full", x.mark(1, 0, 0, 0), 1);
        for (int k = 0; k + 1 < 400; k += 13) {
            due("12: by time", x.marked(0, k, 0) < x.marked(0, k + 1, 0) ? 1 : 0, 1);
        }
        due("12: earliest", x.marked(0, 0, 0), 700000 - 399);
        due("12: latest", x.marked(0, 399, 0), 700000 + 398);
        due("14: one goes", x.unmark(0, 700000 / 1440, 700000 % 1440), 399);
        due("12: room again", x.mark(0, 0, 0, 0), 400);
    }

    private static void late() {
        ShiftLedger x = new ShiftLedger();
        due("13: no worker", x.late(0, 0, 0, 0), NONE);
        x.worker(0, 2);
        due("13: open", x.late(0, 2, 0, 0), STATE);
        x.close();
        due("13: no day", x.late(0, -1, 0, 0), NONE);
        due("13: no day", x.late(0, 1096, 0, 0), NONE);
        due("13: minute", x.late(0, 2, 1440, 0), BAD);
        due("13: minute", x.late(0, 2, -1, 0), BAD);
        due("13: sort", x.late(0, 2, 0, 4), BAD);
        due("13: sort", x.late(0, 2, 0, LEAST), BAD);
        due("13: ahead of first", x.late(0, 1, 0, 0), BAD);
        due("13: open", x.late(0, 31, 0, 0), STATE);
        due("13: BAD goes ahead of STATE", x.late(0, 31, 0, 4), BAD);
        due("13: closed", x.late(0, 30, 1439, 0), 1);
        due("13: closed", x.late(0, 2, 0, 0), 2);
        due("13: there is one", x.late(0, 2, 0, 1), BAD);
        due("13: of all", x.count(4), 2);
        due("13: a mark of the open month ends it", x.mark(0, 31, 9, 1), 3);
        due("13: ten minutes", x.minutes(0, 30, 0), 10);
        due("13: booked", x.month(0, 1, 3), 10);
        lateFull();
    }

    private static void lateFull() {
        ShiftLedger x = new ShiftLedger();
        x.worker(0, 0);
        x.close();
        for (int i = 0; i < 400; i++) x.late(0, i / 100, i % 100, GO);
        due("13: full", x.late(0, 9, 0, 0), FULL);
        due("13: STATE goes ahead of FULL", x.late(0, 31, 0, 0), STATE);
        due("12: STATE goes ahead of FULL", x.mark(0, 9, 0, 0), STATE);
        due("12: full", x.mark(0, 31, 0, 0), FULL);
    }

    private static void lateWhenAllAreClosed() {
        ShiftLedger x = new ShiftLedger();
        x.worker(0, 0);
        for (int m = 0; m < 35; m++) x.close();
        due("13: closed", x.late(0, 1064, 1439, 1), 1);
        due("13: open", x.late(0, 1065, 0, 1), STATE);
        due("12: open", x.mark(0, 1065, 0, 1), 2);
        due("24: the last month", x.close(), 35);
        due("13: all are closed", x.late(0, 0, 0, 0), STATE);
        due("13: all are closed", x.late(0, 1095, 0, 0), STATE);
        due("12: all are closed", x.mark(0, 1095, 0, 0), STATE);
        due("14: all are closed", x.unmark(0, 1065, 0), STATE);
        due("13: BAD goes ahead of STATE", x.late(0, 0, -1, 0), BAD);
    }

    private static void unmark() {
        ShiftLedger x = new ShiftLedger();
        due("14: no worker", x.unmark(0, 0, 0), NONE);
        x.worker(0, 0);
        x.worker(0, 0);
        x.mark(0, 0, 10, COME);
        x.mark(0, 0, 20, PAUSE);
        x.mark(0, 0, 30, GO);
        x.mark(0, 31, 0, COME);
        x.mark(1, 0, 11, GO);
        due("14: no day", x.unmark(0, -1, 0), NONE);
        due("14: no day", x.unmark(0, 1096, 0), NONE);
        due("14: NONE goes ahead of BAD", x.unmark(2, 0, 1440), NONE);
        due("14: minute", x.unmark(0, 0, 1440), BAD);
        due("14: minute", x.unmark(0, 0, -1), BAD);
        due("14: none there", x.unmark(0, 0, 11), BAD);
        due("14: minute 1450 of day -1 is no way to it", x.unmark(0, 0, 44640), BAD);
        due("14: goes", x.unmark(0, 0, 20), 3);
        due("14: it is gone", x.unmark(0, 0, 20), BAD);
        due("14: shifts are paired anew", x.minutes(0, 0, 0), 20);
        due("14: the others stay", x.marked(0, 1, 0), 30);
        due("14: their sorts stay", x.marked(0, 1, 1), GO);
        due("14: the others stay", x.marked(0, 2, 0), 44640);
        due("14: of all", x.count(4), 4);
        x.close();
        due("14: closed", x.unmark(0, 0, 10), STATE);
        due("14: BAD goes ahead of STATE", x.unmark(0, 0, 11), BAD);
        due("14: open", x.unmark(0, 31, 0), 2);
        due("14: the time is free again", x.mark(0, 31, 0, GO), 3);
    }

    private static void markedTimes() {
        ShiftLedger x = new ShiftLedger();
        due("15: no worker", x.marked(0, 0, 0), NONE);
        x.worker(0, 0);
        due("15: no marks", x.marked(0, 0, 0), NONE);
        x.mark(0, 2, 5, BACK);
        x.mark(0, 1, 1439, PAUSE);
        x.mark(0, 1095, 1439, COME);
        due("15: time", x.marked(0, 0, 0), 2879);
        due("15: time", x.marked(0, 1, 0), 2885);
        due("15: time", x.marked(0, 2, 0), 1578239);
        due("15: sort", x.marked(0, 0, 1), PAUSE);
        due("15: sort", x.marked(0, 1, 1), BACK);
        due("15: sort", x.marked(0, 2, 1), COME);
        due("15: k", x.marked(0, 3, 0), NONE);
        due("15: k", x.marked(0, -1, 0), NONE);
        due("15: k", x.marked(0, GREATEST, 0), NONE);
        due("15: what", x.marked(0, 0, 3), NONE);
        due("15: what", x.marked(0, 0, -1), NONE);
        due("15: no worker", x.marked(1, 0, 0), NONE);
        due("15: no worker", x.marked(LEAST, 0, 0), NONE);
    }

    /** Marks are told from the latest to the earliest, so that none of it hangs on their order. */
    private static ShiftLedger with(int[]... marks) {
        ShiftLedger x = new ShiftLedger();
        x.worker(0, 0);
        for (int i = marks.length - 1; i >= 0; i--) x.mark(0, marks[i][0] / 1440, marks[i][0] % 1440, marks[i][1]);
        return x;
    }

    private static void roles(String which, ShiftLedger x, int... want) {
        for (int k = 0; k < want.length; k++) due("15: " + which + ", mark " + k, x.marked(0, k, 2), want[k]);
        due("15: " + which + ", none more", x.marked(0, want.length, 2), NONE);
    }

    private static void pairs() {
        roles("a shift", with(new int[][] {{100, COME}, {200, GO}}), 1, 3);
        roles("with a rest", with(new int[][] {{100, COME}, {150, PAUSE}, {160, BACK}, {200, GO}}), 1, 4, 4, 3);
        roles("with two", with(new int[][] {{0, COME}, {1, PAUSE}, {2, BACK}, {3, PAUSE}, {4, BACK}, {5, GO}}),
            1, 4, 4, 4, 4, 3);
        roles("a pause at the end", with(new int[][] {{100, COME}, {150, PAUSE}, {200, GO}}), 1, 4, 3);
        roles("two shifts", with(new int[][] {{100, COME}, {200, GO}, {201, COME}, {300, GO}}), 1, 3, 1, 3);
        roles("over midnight", with(new int[][] {{1400, COME}, {1500, GO}}), 1, 3);
    }

    private static void doubles() {
        roles("out", with(new int[][] {{1, GO}, {2, PAUSE}, {3, BACK}, {4, COME}, {5, GO}, {6, BACK}, {7, PAUSE}, {8, GO}}),
            0, 0, 0, 1, 3, 0, 0, 0);
        roles("in", with(new int[][] {{1, COME}, {2, COME}, {3, BACK}, {4, GO}}), 1, 0, 0, 3);
        roles("paused", with(new int[][] {{1, COME}, {2, PAUSE}, {3, PAUSE}, {4, COME}, {5, BACK}, {6, BACK}, {7, GO}}),
            1, 4, 0, 0, 4, 0, 3);
    }

    private static void gaps() {
        roles("no end", with(new int[][] {{100, COME}}), 2);
        roles("no end, paused", with(new int[][] {{100, COME}, {101, PAUSE}}), 2, 4);
        roles("960 minutes", with(new int[][] {{100, COME}, {1060, GO}}), 1, 3);
        roles("961 minutes", with(new int[][] {{100, COME}, {1061, GO}}), 2, 0);
        roles("961 minutes, come", with(new int[][] {{100, COME}, {1061, COME}, {1062, GO}}), 2, 1, 3);
        roles("960 minutes, come", with(new int[][] {{100, COME}, {1060, COME}, {1062, GO}}), 2, 0, 0);
        roles("961 minutes, paused", with(new int[][] {{100, COME}, {200, PAUSE}, {1061, GO}}), 2, 4, 0);
        roles("960 minutes, paused", with(new int[][] {{100, COME}, {200, PAUSE}, {1060, GO}}), 1, 4, 3);
        roles("from the come on, not from the last mark", with(new int[][] {{0, COME}, {900, PAUSE}, {950, BACK}, {961, GO}}),
            2, 4, 4, 0);
        roles("a double behind it", with(new int[][] {{0, COME}, {961, BACK}, {970, GO}}), 2, 0, 0);
        roles("two gaps", with(new int[][] {{0, COME}, {961, COME}, {1922, COME}}), 2, 2, 2);
    }
}
