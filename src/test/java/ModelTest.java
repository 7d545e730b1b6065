import java.math.BigDecimal;
import java.math.BigInteger;
import java.math.RoundingMode;
import java.util.ArrayList;
import java.util.BitSet;
import java.util.HashMap;
import java.util.List;
import java.util.Map;
import java.util.Random;
import java.util.TreeMap;
import java.util.TreeSet;

/**
 * Long runs of calls, made from fixed seeds, whose answers are held against a model that follows the document's
 * words step by step with sets of minutes and numbers of any size, and keeps nothing that it can find anew.
 */
public final class ModelTest {
    private static final String[] NAMES = {"worker", "feast", "kind", "rule", "rate", "surcharge", "exclude",
        "target", "limits", "absent", "mark", "late", "unmark", "marked", "day", "shifts", "minute", "minutes",
        "why", "counts", "cents", "due", "close", "open", "month", "sum", "count"};
    private static final int[] ARITY = {2, 1, 3, 4, 3, 4, 2, 3, 3, 3, 4, 4, 3, 3, 3, 3, 3, 3, 3, 5, 2, 2, 0, 0, 3, 3, 1};
    private static final int WORKER = 0, FEAST = 1, KIND = 2, RULE = 3, RATE = 4, SURCHARGE = 5, EXCLUDE = 6,
        TARGET = 7, LIMITS = 8, ABSENT = 9, MARK = 10, LATE = 11, UNMARK = 12, MARKED = 13, DAY = 14, SHIFTS = 15,
        MINUTE = 16, MINUTES = 17, WHY = 18, COUNTS = 19, CENTS = 20, DUE = 21, CLOSE = 22, OPEN = 23, MONTH = 24,
        SUM = 25, COUNT = 26;
    private static final int RUNS = 300;
    private static int wrong = 0;

    public static void main(String[] args) {
        long calls = 0;
        long[] answers = new long[NAMES.length];
        long[] refusals = new long[NAMES.length];
        long bookings = 0;
        for (int run = 0; run < RUNS && wrong < 20; run++) {
            Driver driver = new Driver(run);
            for (int i = 0; i < 512 && wrong < 20; i++) {
                int op = driver.nextOp();
                int[] a = driver.argumentsOf(op);
                long want = driver.model.call(op, a);
                long got = call(driver.ledger, op, a);
                calls++;
                if (want < 0 && want >= -4 || want == Long.MIN_VALUE) refusals[op]++; else answers[op]++;
                if (got != want) {
                    wrong++;
                    System.out.println("run " + run + ", call " + i + ": " + show(op, a) + " answered " + got
                        + ", due is " + want);
                    break;
                }
            }
            bookings += driver.model.bookings;
        }
        // Runs that never reach a call's answer or its refusal would test nothing.
        for (int op = 0; op < NAMES.length; op++) {
            if (answers[op] < 100 || ARITY[op] > 0 && refusals[op] < 10) {
                wrong++;
                System.out.println(NAMES[op] + ": only " + answers[op] + " answers, " + refusals[op] + " refusals");
            }
        }
        if (bookings < 1000) {
            wrong++;
            System.out.println("only " + bookings + " bookings were looked at");
        }
        System.out.println(bookings + " bookings, " + answers[CLOSE] + " months closed");
        System.out.println(calls + " calls in " + RUNS + " runs, "
            + (wrong == 0 ? "all answers are as due" : wrong + " are not as due"));
        if (wrong != 0) System.exit(1);
    }

    private static String show(int op, int[] a) {
        StringBuilder text = new StringBuilder(NAMES[op]).append("(");
        for (int i = 0; i < a.length; i++) text.append(i == 0 ? "" : ", ").append(a[i]);
        return text.append(")").toString();
    }

    private static long call(ShiftLedger x, int op, int[] a) {
        switch (op) {
            case WORKER: return x.worker(a[0], a[1]);
            case FEAST: return x.feast(a[0]);
            case KIND: return x.kind(a[0], a[1], a[2]);
            case RULE: return x.rule(a[0], a[1], a[2], a[3]);
            case RATE: return x.rate(a[0], a[1], a[2]);
            case SURCHARGE: return x.surcharge(a[0], a[1], a[2], a[3]);
            case EXCLUDE: return x.exclude(a[0], a[1]);
            case TARGET: return x.target(a[0], a[1], a[2]);
            case LIMITS: return x.limits(a[0], a[1], a[2]);
            case ABSENT: return x.absent(a[0], a[1], a[2]);
            case MARK: return x.mark(a[0], a[1], a[2], a[3]);
            case LATE: return x.late(a[0], a[1], a[2], a[3]);
            case UNMARK: return x.unmark(a[0], a[1], a[2]);
            case MARKED: return x.marked(a[0], a[1], a[2]);
            case DAY: return x.day(a[0], a[1], a[2]);
            case SHIFTS: return x.shifts(a[0], a[1], a[2]);
            case MINUTE: return x.minute(a[0], a[1], a[2]);
            case MINUTES: return x.minutes(a[0], a[1], a[2]);
            case WHY: return x.why(a[0], a[1], a[2]);
            case COUNTS: return x.counts(a[0], a[1], a[2], a[3], a[4]);
            case CENTS: return x.cents(a[0], a[1]);
            case DUE: return x.due(a[0], a[1]);
            case CLOSE: return x.close();
            case OPEN: return x.open();
            case MONTH: return x.month(a[0], a[1], a[2]);
            case SUM: return x.sum(a[0], a[1], a[2]);
            default: return x.count(a[0]);
        }
    }

    /** Chooses calls: a few workers and days, so that marks meet one another, and now and then a wrong number. */
    private static final class Driver {
        final Random random;
        final ShiftLedger ledger = new ShiftLedger();
        final Model model = new Model();
        final int busyWorkers;
        final int busyDays;
        final int spoil;
        final int wildMarks;
        final int grid;
        final List<int[]> shiftToCome = new ArrayList<>();
        int made = 0;

        Driver(int seed) {
            random = new Random(1000003L * seed + 17);
            busyWorkers = 1 + random.nextInt(3);
            busyDays = 1 + random.nextInt(6);
            spoil = 10 + random.nextInt(20);
            wildMarks = random.nextInt(30);
            int[] grids = {1, 1, 5, 30, 97};
            grid = grids[random.nextInt(grids.length)];
        }

        int nextOp() {
            made++;
            if (made <= busyWorkers) return WORKER;
            if (!shiftToCome.isEmpty()) return isLate(shiftToCome.get(0)) ? LATE : MARK;
            if (random.nextInt(20) == 0) planShift();
            int dice = random.nextInt(100);
            if (dice < wildMarks) return model.openMonth > 0 && random.nextBoolean() ? LATE : MARK;
            if (dice < 34) return UNMARK;
            if (dice < 37) return CLOSE;
            if (dice < 46) return MONTH;
            if (dice < 56) return made < 120 ? random.nextInt(10) : random.nextInt(NAMES.length);
            if (dice < 60) return CENTS;
            if (dice < 64) return COUNTS;
            int[] asked = {MARKED, SHIFTS, MINUTE, MINUTE, MINUTES, MINUTES, WHY, WHY, SUM, DUE};
            if (dice < 90) return asked[random.nextInt(asked.length)];
            return random.nextInt(NAMES.length);
        }

        int[] argumentsOf(int op) {
            if ((op == MARK || op == LATE) && !shiftToCome.isEmpty()) return shiftToCome.remove(0);
            int[] a = sensible(op);
            for (int i = 0; i < a.length; i++) {
                if (random.nextInt(spoil * 2) == 0) a[i] = strange();
            }
            return a;
        }

        boolean isLate(int[] mark) { return Model.monthOf(mark[1]) < model.openMonth; }

        /** A whole shift, its marks in any order, so that not every month has a gap that keeps it from closing. */
        void planShift() {
            int w = w();
            int come = 1440 * someDay() + someMinute();
            int go = come + 1 + random.nextInt(960);
            int pause = come + random.nextInt(go - come);
            int back = pause + random.nextInt(go - pause);
            int[][] marks = {{come, 0}, {go, 1}, {pause, 2}, {back, 3}};
            int n = 2 + random.nextInt(3);
            if (go >= 1440 * 1096) return;
            for (int i = 0; i < n; i++) {
                shiftToCome.add(random.nextInt(shiftToCome.size() + 1),
                    new int[] {w, marks[i][0] / 1440, marks[i][0] % 1440, marks[i][1]});
            }
        }

        int strange() {
            int[] numbers = {-1, -2, Integer.MIN_VALUE, Integer.MAX_VALUE, 1096, 36, 6, 7, 8, 1440, 2880, 5, 12, 30, 4, 3,
                2, 1095, 20001, 100001, 2881, 601, -100001, 256, 1439, 2879, 0, 100000, 20000, 600};
            return numbers[random.nextInt(numbers.length)];
        }

        int group() { return random.nextInt(4) == 0 ? random.nextInt(6) : random.nextInt(2); }
        int w() { return model.workers.isEmpty() ? 0 : random.nextInt(random.nextInt(5) == 0 ? model.workers.size() : Math.min(busyWorkers, model.workers.size())); }

        /** Mostly days about the beginning of the first open month, where bookings come from. */
        int someDay() {
            int dice = random.nextInt(12);
            if (dice == 0) return random.nextInt(1096);
            if (dice == 1) return 1090 + random.nextInt(6);
            int middle = model.openMonth < 36 ? Model.firstDay(model.openMonth) : 1096;
            int day = middle - busyDays / 2 - 1 + random.nextInt(busyDays + 1) - (dice == 2 ? 30 : 0);
            return Math.max(0, Math.min(1095, day));
        }

        int someMinute() { return random.nextInt(1440) / grid * grid; }
        int month() { return random.nextInt(5) == 0 ? random.nextInt(36) : Math.max(0, Math.min(35, model.openMonth - 1 + random.nextInt(4))); }

        int[] sensible(int op) {
            switch (op) {
                case WORKER: return new int[] {random.nextInt(3) == 0 ? group() : 0, random.nextInt(3) == 0 ? someDay() : 0};
                case FEAST: return new int[] {someDay()};
                case KIND: return new int[] {group(), random.nextInt(8), random.nextInt(3) == 0 ? random.nextInt(8) : random.nextInt(2)};
                case RULE: return someRule();
                case RATE: return new int[] {group(), random.nextBoolean() ? 0 : someDay(), random.nextInt(3000)};
                case SURCHARGE: return new int[] {random.nextBoolean() ? 255 : random.nextInt(256), someMinute(), someMinute(),
                    random.nextBoolean() ? 2500 : random.nextInt(20001)};
                case EXCLUDE: return new int[] {someSurcharge(), someSurcharge()};
                case TARGET: return new int[] {group(), random.nextInt(7), random.nextInt(1441)};
                case LIMITS: return new int[] {group(), -random.nextInt(6000), random.nextInt(6000)};
                case ABSENT: { int from = someDay(); return new int[] {w(), from, Math.min(1095, from + random.nextInt(5) - 1)}; }
                case MARK: return someMark();
                case LATE: return someMark();
                case UNMARK: return someUnmark();
                case MARKED: { int w = w(); int n = w < model.workers.size() ? model.workers.get(w).marks.size() : 0;
                    return new int[] {w, random.nextInt(n + 1), random.nextInt(3)}; }
                case DAY: return new int[] {group(), random.nextBoolean() ? random.nextInt(1096) : someDay(), random.nextInt(3)};
                case SHIFTS: return new int[] {w(), someDay(), random.nextInt(2)};
                case MINUTE: return new int[] {w(), someDay(), random.nextInt(2880)};
                case MINUTES: return new int[] {w(), someDay(), random.nextInt(8)};
                case WHY: return new int[] {w(), someDay(), random.nextInt(5)};
                case COUNTS: return new int[] {w(), someDay(), random.nextInt(2400), someSurcharge(), random.nextInt(2)};
                case CENTS: return new int[] {w(), someDay()};
                case DUE: return new int[] {w(), someDay()};
                case MONTH: return new int[] {w(), month(), random.nextInt(5)};
                case SUM: return new int[] {group(), month(), random.nextInt(2)};
                case COUNT: return new int[] {random.nextInt(5)};
                default: return new int[0];
            }
        }

        int someSurcharge() { return random.nextInt(Math.max(1, model.surcharges.size())); }

        int[] someRule() {
            int kind = random.nextInt(3) == 0 ? random.nextInt(8) : random.nextInt(2);
            int[] steps = {1, 5, 10, 15, 30, 7};
            switch (random.nextInt(5)) {
                case 0: return new int[] {kind, 0, steps[random.nextInt(6)], 0};
                case 1: return new int[] {kind, 1, random.nextInt(900), random.nextInt(3) == 0 ? 0 : random.nextInt(2881)};
                case 2: return new int[] {kind, 2, random.nextInt(700), random.nextInt(3) == 0 ? random.nextInt(601) : random.nextInt(90)};
                case 3: return new int[] {kind, 3, random.nextInt(3) == 0 ? 0 : random.nextInt(1000), 0};
                default: return new int[] {kind, 4, random.nextInt(4) == 0 ? 0 : random.nextInt(700), random.nextInt(20001)};
            }
        }

        int[] someMark() {
            int sort = random.nextInt(5);
            return new int[] {w(), someDay(), someMinute(), sort == 4 ? 1 : sort};
        }

        int[] someUnmark() {
            int w = w();
            if (random.nextInt(5) > 0 && w < model.workers.size() && !model.workers.get(w).marks.isEmpty()) {
                List<Integer> times = new ArrayList<>(model.workers.get(w).marks.keySet());
                int time = times.get(Math.max(random.nextInt(times.size()), random.nextInt(times.size())));
                return new int[] {w, time / 1440, time % 1440};
            }
            return new int[] {w, someDay(), someMinute()};
        }
    }

    private static final class Shift {
        int come;
        boolean ends;
        int end;
        final List<Integer> members = new ArrayList<>();
        final List<int[]> parts = new ArrayList<>();
        final List<int[]> rests = new ArrayList<>();
    }

    private static final class Staff {
        int group;
        int first;
        final TreeMap<Integer, Integer> marks = new TreeMap<>();
        List<Shift> paired = null;
        final List<int[]> absences = new ArrayList<>();
        final Map<Integer, long[]> closed = new HashMap<>();
        final Map<Integer, long[]> booked = new HashMap<>();
    }

    private static final class Model {
        static final int[] LENGTHS = {31, 28, 31, 30, 31, 30, 31, 31, 30, 31, 30, 31};
        final List<Staff> workers = new ArrayList<>();
        final TreeSet<Integer> feasts = new TreeSet<>();
        final int[][] kinds = new int[6][8];
        final int[][] targets = new int[6][7];
        final int[][] limits = new int[6][2];
        final int[][][] rules = new int[8][5][2];
        final List<int[]> rates = new ArrayList<>();
        final List<int[]> surcharges = new ArrayList<>();
        final TreeSet<Integer> exclusions = new TreeSet<>();
        int openMonth = 0;
        int bookings = 0;

        Model() { for (int[][] rule : rules) rule[0][0] = 1; }

        static int lengthOf(int m) { return m == 25 ? 29 : LENGTHS[m % 12]; }
        static final int[] FIRST_DAYS = firstDays();
        static final int[] MONTHS_OF_DAYS = monthsOfDays();
        static int[] firstDays() { int[] days = new int[37]; for (int m = 0; m < 36; m++) days[m + 1] = days[m] + lengthOf(m); return days; }
        static int[] monthsOfDays() {
            int[] months = new int[1096];
            for (int m = 0; m < 36; m++) for (int d = FIRST_DAYS[m]; d < FIRST_DAYS[m + 1]; d++) months[d] = m;
            return months;
        }
        static int firstDay(int m) { return FIRST_DAYS[m]; }
        static int monthOf(int day) { return MONTHS_OF_DAYS[day]; }
        static boolean in(int x, int low, int high) { return low <= x && x <= high; }
        static boolean noDay(int day) { return !in(day, 0, 1095); }

        boolean noWorker(int w) { return !in(w, 0, workers.size() - 1); }

        long call(int op, int[] a) {
            switch (op) {
                case WORKER: return worker(a[0], a[1]);
                case FEAST: return noDay(a[0]) ? -1 : feasts.add(a[0]) ? 1 : 0;
                case KIND: return kind(a[0], a[1], a[2]);
                case RULE: return rule(a[0], a[1], a[2], a[3]);
                case RATE: return rate(a[0], a[1], a[2]);
                case SURCHARGE: return surcharge(a);
                case EXCLUDE: return exclude(a[0], a[1]);
                case TARGET: return target(a[0], a[1], a[2]);
                case LIMITS: return limits(a[0], a[1], a[2]);
                case ABSENT: return absent(a[0], a[1], a[2]);
                case MARK: return mark(a[0], a[1], a[2], a[3], false);
                case LATE: return mark(a[0], a[1], a[2], a[3], true);
                case UNMARK: return unmark(a[0], a[1], a[2]);
                case MARKED: return marked(a[0], a[1], a[2]);
                case DAY: return day(a[0], a[1], a[2]);
                case SHIFTS: return shifts(a[0], a[1], a[2]);
                case MINUTE: return noWorker(a[0]) || noDay(a[1]) || !in(a[2], 0, 2879) ? -1 : classes(a[0], a[1])[a[2]];
                case MINUTES: return minutes(a[0], a[1], a[2]);
                case WHY: return noWorker(a[0]) || noDay(a[1]) || !in(a[2], 0, 4) ? -1 : steps(a[0], a[1]).get(a[2]).cardinality();
                case COUNTS: return counts(a[0], a[1], a[2], a[3], a[4]);
                case CENTS: return noWorker(a[0]) || noDay(a[1]) ? -1 : cents(a[0], a[1]);
                case DUE: return noWorker(a[0]) || noDay(a[1]) ? -1 : due(a[0], a[1]);
                case CLOSE: return close();
                case OPEN: return openMonth;
                case MONTH: return noWorker(a[0]) || !in(a[1], 0, 35) || !in(a[2], 0, 4) ? Long.MIN_VALUE : says(a[0], a[1])[a[2]];
                case SUM: return sum(a[0], a[1], a[2]);
                default: return count(a[0]);
            }
        }

        long worker(int group, int first) {
            if (!in(group, 0, 5) || noDay(first)) return -1;
            if (workers.size() == 30) return -4;
            Staff staff = new Staff();
            staff.group = group;
            staff.first = first;
            workers.add(staff);
            return workers.size() - 1;
        }

        long kind(int group, int weekday, int kind) {
            if (!in(group, 0, 5) || !in(kind, 0, 7)) return -1;
            if (!in(weekday, 0, 7)) return -2;
            int was = kinds[group][weekday];
            kinds[group][weekday] = kind;
            return was;
        }

        long rule(int kind, int what, int a, int b) {
            if (!in(kind, 0, 7) || !in(what, 0, 4)) return -1;
            boolean good = false;
            if (what == 0) good = List.of(1, 5, 10, 15, 30).contains(a) && b == 0;
            if (what == 1) good = in(a, 0, 2880) && in(b, 0, 2880);
            if (what == 2) good = in(a, 0, 2880) && in(b, 0, 600);
            if (what == 3) good = in(a, 0, 2880) && b == 0;
            if (what == 4) good = in(a, 0, 2880) && in(b, 0, 20000);
            if (!good) return -2;
            rules[kind][what] = new int[] {a, b};
            return 0;
        }

        long rate(int group, int day, int cents) {
            if (!in(group, 0, 5) || noDay(day)) return -1;
            if (!in(cents, 0, 100000)) return -2;
            if (rates.size() == 60) return -4;
            rates.add(new int[] {group, day, cents});
            return rates.size();
        }

        long surcharge(int[] a) {
            if (!in(a[0], 0, 255) || !in(a[1], 0, 1439) || !in(a[2], 0, 1439) || !in(a[3], 0, 20000)) return -2;
            if (surcharges.size() == 12) return -4;
            surcharges.add(a.clone());
            return surcharges.size() - 1;
        }

        long exclude(int s, int t) {
            if (!in(s, 0, surcharges.size() - 1) || !in(t, 0, surcharges.size() - 1)) return -1;
            if (s == t) return -2;
            return exclusions.add(Math.min(s, t) * 100 + Math.max(s, t)) ? 1 : 0;
        }

        long target(int group, int weekday, int minutes) {
            if (!in(group, 0, 5)) return -1;
            if (!in(weekday, 0, 6) || !in(minutes, 0, 1440)) return -2;
            int was = targets[group][weekday];
            targets[group][weekday] = minutes;
            return was;
        }

        long limits(int group, int low, int high) {
            if (!in(group, 0, 5)) return -1;
            if (!in(low, -100000, 100000) || !in(high, -100000, 100000) || high < low) return -2;
            limits[group] = new int[] {low, high};
            return 0;
        }

        long absent(int w, int from, int to) {
            if (noWorker(w) || noDay(from) || noDay(to)) return -1;
            if (to < from) return -2;
            List<int[]> absences = workers.get(w).absences;
            if (absences.size() == 20) return -4;
            absences.add(new int[] {from, to});
            return absences.size();
        }

        int marksOfAll() { int n = 0; for (Staff staff : workers) n += staff.marks.size(); return n; }

        long mark(int w, int day, int minute, int sort, boolean late) {
            if (noWorker(w) || noDay(day)) return -1;
            Staff staff = workers.get(w);
            if (!in(minute, 0, 1439) || !in(sort, 0, 3) || day < staff.first) return -2;
            int time = 1440 * day + minute;
            if (staff.marks.containsKey(time)) return -2;
            boolean closed = monthOf(day) < openMonth;
            if (late ? !closed || openMonth == 36 : closed) return -3;
            if (staff.marks.size() == 400 || marksOfAll() == 1000) return -4;
            TreeMap<Integer, long[]> before = closedDays(w);
            staff.marks.put(time, sort);
            staff.paired = null;
            book(w, before);
            return staff.marks.size();
        }

        long unmark(int w, int day, int minute) {
            if (noWorker(w) || noDay(day)) return -1;
            Staff staff = workers.get(w);
            if (!in(minute, 0, 1439) || !staff.marks.containsKey(1440 * day + minute)) return -2;
            if (monthOf(day) < openMonth) return -3;
            TreeMap<Integer, long[]> before = closedDays(w);
            staff.marks.remove(1440 * day + minute);
            staff.paired = null;
            book(w, before);
            return staff.marks.size();
        }

        TreeMap<Integer, long[]> closedDays(int w) {
            TreeMap<Integer, long[]> days = new TreeMap<>();
            if (openMonth == 0) return days;
            for (Shift shift : pair(w)) {
                int day = shift.come / 1440;
                if (monthOf(day) < openMonth && !days.containsKey(day)) {
                    days.put(day, new long[] {minutes(w, day, 0), cents(w, day)});
                }
            }
            return days;
        }

        void book(int w, TreeMap<Integer, long[]> before) {
            TreeMap<Integer, long[]> after = closedDays(w);
            TreeSet<Integer> days = new TreeSet<>(before.keySet());
            days.addAll(after.keySet());
            long[] nothing = {0, 0};
            long[] booked = workers.get(w).booked.computeIfAbsent(openMonth, m -> new long[2]);
            for (int day : days) {
                if (after.getOrDefault(day, nothing)[0] != before.getOrDefault(day, nothing)[0]) bookings++;
                for (int i = 0; i < 2; i++) {
                    booked[i] += after.getOrDefault(day, nothing)[i] - before.getOrDefault(day, nothing)[i];
                }
            }
        }

        /** The SHIFTS of a WORKER, with the MARKS that are not DOUBLE. */
        List<Shift> pair(int w) {
            if (workers.get(w).paired == null) workers.get(w).paired = pairAnew(w);
            return workers.get(w).paired;
        }

        List<Shift> pairAnew(int w) {
            List<Shift> shifts = new ArrayList<>();
            Shift now = null;
            boolean paused = false;
            for (Map.Entry<Integer, Integer> mark : workers.get(w).marks.entrySet()) {
                int time = mark.getKey();
                int sort = mark.getValue();
                if (now != null && time > now.come + 960) now = null;
                if (now == null) {
                    if (sort == 0) {
                        now = new Shift();
                        now.come = time;
                        now.members.add(time);
                        shifts.add(now);
                        paused = false;
                    }
                    continue;
                }
                if (sort == 1) {
                    now.members.add(time);
                    now.ends = true;
                    divide(now);
                    now = null;
                } else if (sort == 2 && !paused || sort == 3 && paused) {
                    now.members.add(time);
                    paused = !paused;
                }
            }
            return shifts;
        }

        /** COME PAUSE BACK PAUSE .. GO: parts begin at even places, rests at odd ones, but for one that GO ends. */
        static void divide(Shift shift) {
            List<Integer> times = shift.members;
            int n = times.size();
            for (int i = 0; i + 1 < n; i += 2) shift.parts.add(new int[] {times.get(i), times.get(i + 1)});
            for (int i = 1; i + 1 < n - 1; i += 2) shift.rests.add(new int[] {times.get(i), times.get(i + 1)});
            shift.end = n % 2 == 0 ? times.get(n - 1) : times.get(n - 2);
        }

        long marked(int w, int k, int what) {
            if (noWorker(w) || !in(what, 0, 2)) return -1;
            List<Integer> times = new ArrayList<>(workers.get(w).marks.keySet());
            if (!in(k, 0, times.size() - 1)) return -1;
            int time = times.get(k);
            if (what == 0) return time;
            if (what == 1) return workers.get(w).marks.get(time);
            for (Shift shift : pair(w)) {
                int place = shift.members.indexOf(time);
                if (place == 0) return shift.ends ? 1 : 2;
                if (place > 0) return shift.ends && place == shift.members.size() - 1 ? 3 : 4;
            }
            return 0;
        }

        int kindOf(int group, int day) { return kinds[group][feasts.contains(day) ? 7 : day % 7]; }

        long day(int group, int day, int what) {
            if (!in(group, 0, 5) || noDay(day) || !in(what, 0, 2)) return -1;
            return what == 0 ? monthOf(day) : what == 1 ? (feasts.contains(day) ? 1 : 0) : kindOf(group, day);
        }

        long shifts(int w, int day, int what) {
            if (noWorker(w) || noDay(day) || !in(what, 0, 1)) return -1;
            return pair(w).stream().filter(s -> s.come / 1440 == day && s.ends == (what == 0)).count();
        }

        /** The MINUTES that are there: RAW, behind ROUND, FRAME, OWED, MOST; then OVERTIME; then those in RESTS. */
        List<BitSet> steps(int w, int day) {
            int[][] rule = rules[kindOf(workers.get(w).group, day)];
            BitSet raw = new BitSet();
            BitSet round = new BitSet();
            BitSet rests = new BitSet();
            int begin = 1440 * day;
            int step = rule[0][0];
            for (Shift shift : pair(w)) {
                if (!shift.ends || shift.come / 1440 != day) continue;
                int come = shift.come - begin;
                int end = shift.end - begin;
                while (come % step != 0) come++;
                while (end % step != 0) end--;
                BitSet ofShift = new BitSet();
                for (int[] part : shift.parts) ofShift.set(part[0] - begin, part[1] - begin);
                raw.or(ofShift);
                ofShift.clear(0, come);
                ofShift.clear(end, 2880);
                round.or(ofShift);
                for (int[] rest : shift.rests) rests.set(rest[0] - begin, rest[1] - begin);
            }
            BitSet frame = (BitSet) round.clone();
            if (rule[1][1] > 0) {
                frame.clear(0, rule[1][0]);
                frame.clear(rule[1][1], 2880);
            }
            BitSet owed = (BitSet) frame.clone();
            if (rule[2][1] > 0 && frame.cardinality() > rule[2][0] && rests.cardinality() < rule[2][1]) {
                for (int i = rests.cardinality(); i < rule[2][1] && !owed.isEmpty(); i++) owed.clear(owed.length() - 1);
            }
            BitSet most = rule[3][0] > 0 ? firstOf(owed, rule[3][0]) : (BitSet) owed.clone();
            BitSet over = (BitSet) most.clone();
            over.andNot(rule[4][0] > 0 ? firstOf(most, rule[4][0]) : most);
            return List.of(raw, round, frame, owed, most, over, rests);
        }

        static BitSet firstOf(BitSet set, int n) {
            BitSet first = new BitSet();
            int m = set.nextSetBit(0);
            for (int i = 0; i < n && m >= 0; i++) {
                first.set(m);
                m = set.nextSetBit(m + 1);
            }
            return first;
        }

        int[] classes(int w, int day) {
            List<BitSet> steps = steps(w, day);
            int[] classes = new int[2880];
            for (int m = 0; m < 2880; m++) {
                if (steps.get(6).get(m)) classes[m] = 1;
                if (!steps.get(0).get(m)) continue;
                int gone = 1;
                while (gone <= 4 && steps.get(gone).get(m)) gone++;
                classes[m] = gone <= 4 ? gone + 1 : steps.get(5).get(m) ? 6 : 7;
            }
            return classes;
        }

        long minutes(int w, int day, int sort) {
            if (noWorker(w) || noDay(day) || !in(sort, 0, 7)) return -1;
            int n = 0;
            for (int c : classes(w, day)) if (sort == 0 ? c >= 6 : c == sort) n++;
            return n;
        }

        boolean meets(int kind, int minute, int s) {
            int[] charge = surcharges.get(s);
            int at = minute % 1440;
            if ((charge[0] & (1 << kind)) == 0) return false;
            if (charge[1] == charge[2]) return true;
            return charge[1] < charge[2] ? charge[1] <= at && at < charge[2] : at >= charge[1] || at < charge[2];
        }

        boolean countsAt(int kind, int minute, int s) {
            if (!meets(kind, minute, s)) return false;
            for (int t = 0; t < surcharges.size(); t++) {
                if (t == s || !exclusions.contains(Math.min(s, t) * 100 + Math.max(s, t)) || !meets(kind, minute, t)) continue;
                int mine = surcharges.get(s)[3];
                int other = surcharges.get(t)[3];
                if (other > mine || other == mine && t < s) return false;
            }
            return true;
        }

        long counts(int w, int day, int minute, int s, int what) {
            if (noWorker(w) || noDay(day) || !in(minute, 0, 2879) || !in(s, 0, surcharges.size() - 1) || !in(what, 0, 1)) return -1;
            if (classes(w, day)[minute] < 6) return 0;
            int kind = kindOf(workers.get(w).group, day);
            return (what == 1 ? meets(kind, minute, s) : countsAt(kind, minute, s)) ? 1 : 0;
        }

        long rateOn(int group, int day) {
            for (int d = day; d >= 0; d--) {
                for (int i = rates.size() - 1; i >= 0; i--) {
                    if (rates.get(i)[0] == group && rates.get(i)[1] == d) return rates.get(i)[2];
                }
            }
            return 0;
        }

        long cents(int w, int day) {
            int group = workers.get(w).group;
            int kind = kindOf(group, day);
            int[] classes = classes(w, day);
            BigInteger rate = BigInteger.valueOf(rateOn(group, day));
            BigInteger all = BigInteger.ZERO;
            for (int m = 0; m < 2880; m++) {
                if (classes[m] < 6) continue;
                long share = 10000 + (classes[m] == 6 ? rules[kind][4][1] : 0);
                for (int s = 0; s < surcharges.size(); s++) if (countsAt(kind, m, s)) share += surcharges.get(s)[3];
                all = all.add(rate.multiply(BigInteger.valueOf(share)));
            }
            return new BigDecimal(all).divide(BigDecimal.valueOf(600000), 0, RoundingMode.HALF_EVEN).longValueExact();
        }

        long due(int w, int day) {
            Staff staff = workers.get(w);
            boolean away = false;
            for (int[] a : staff.absences) away |= a[0] <= day && day <= a[1];
            return away || feasts.contains(day) || day < staff.first ? 0 : targets[staff.group][day % 7];
        }

        long[] says(int w, int m) {
            Staff staff = workers.get(w);
            if (m < openMonth) return staff.closed.getOrDefault(m, new long[5]);
            long[] booked = staff.booked.getOrDefault(m, new long[2]);
            long[] says = {booked[0], booked[1], booked[0], booked[0], booked[1]};
            if (m > 0) says[2] += says(w, m - 1)[2];
            TreeSet<Integer> days = new TreeSet<>();
            for (Shift shift : pair(w)) days.add(shift.come / 1440);
            for (int day = firstDay(m); day < firstDay(m + 1); day++) {
                says[2] -= due(w, day);
                if (days.contains(day)) {
                    long paid = minutes(w, day, 0);
                    says[0] += paid;
                    says[1] += cents(w, day);
                    says[2] += paid;
                }
            }
            return says;
        }

        long close() {
            if (openMonth == 36) return -3;
            for (int w = 0; w < workers.size(); w++) {
                for (Shift shift : pair(w)) if (!shift.ends && monthOf(shift.come / 1440) == openMonth) return -3;
            }
            for (int w = 0; w < workers.size(); w++) {
                long[] says = says(w, openMonth);
                int[] limit = limits[workers.get(w).group];
                if (says[2] < limit[0]) says[2] = limit[0];
                if (says[2] > limit[1]) says[2] = limit[1];
                workers.get(w).closed.put(openMonth, says);
            }
            return openMonth++;
        }

        long sum(int group, int m, int what) {
            if (!in(group, 0, 5) || !in(m, 0, 35) || !in(what, 0, 1)) return Long.MIN_VALUE;
            long all = 0;
            for (int w = 0; w < workers.size(); w++) if (workers.get(w).group == group) all += says(w, m)[what];
            return all;
        }

        long count(int what) {
            switch (what) {
                case 0: return workers.size();
                case 1: return feasts.size();
                case 2: return rates.size();
                case 3: return surcharges.size();
                case 4: return marksOfAll();
                default: return -1;
            }
        }
    }
}
