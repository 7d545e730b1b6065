/**
 * A ledger of shifts. The words in capitals are those of the document.
 *
 * All rows are made with the object or with a WORKER and used again, so that no other call makes anything.
 */
public final class ShiftLedger {
    public static final int NONE = -1, BAD = -2, STATE = -3, FULL = -4;

    private static final int DAYS = 1096;
    private static final int MONTHS = 36;
    private static final int GROUPS = 6;
    private static final int KINDS = 8;
    private static final int WEEKDAYS = 7;
    private static final int DAY_MINUTES = 1440;
    private static final int SHEET_MINUTES = 2880;
    private static final int LONGEST_SHIFT = 960;

    private static final int MOST_WORKERS = 30;
    private static final int MOST_MARKS_OF_ONE = 400;
    private static final int MOST_MARKS_OF_ALL = 1000;
    /** PARTS and RESTS are fewer than MARKS; each SHIFT, of two MARKS at least, is cut twice, the day five times. */
    private static final int MOST_SPANS = 2 * MOST_MARKS_OF_ONE + 5;
    private static final int MOST_RATES = 60;
    private static final int MOST_SURCHARGES = 12;
    private static final int MOST_ABSENCES = 20;
    private static final int MOST_CENTS = 100000;
    private static final int MOST_HUNDREDTHS = 20000;
    private static final int WIDEST_LIMIT = 100000;

    /** In the row of a GROUP's KINDS, FEASTS stand behind the seven WEEKDAYS. */
    private static final int FEAST_PLACE = 7;

    private static final int COME = 0, GO = 1, PAUSE = 2, BACK = 3;
    private static final int OUT = 0, IN = 1, PAUSED = 2;
    private static final int DOUBLE = 0, BEGINS_ENDED = 1, BEGINS_GAP = 2, ENDS = 3, BETWEEN = 4;

    private static final int ROUND = 0, FRAME = 1, OWED = 2, MOST = 3, OVER = 4, RULES = 5;
    private static final int[] HIGHEST_A = {30, 2880, 2880, 2880, 2880};
    private static final int[] HIGHEST_B = {0, 2880, 600, 0, 20000};

    private static final int NOTHING = 0, REST = 1, BY_ROUND = 2, BY_FRAME = 3, BY_OWED = 4, BY_MOST = 5,
        OVERTIME = 6, THERE = 7;

    private static final int PAID = 0, CENTS = 1, FLEX = 2, BOOKED_MINUTES = 3, BOOKED_CENTS = 4, SAYINGS = 5;

    /** Pay is added up in shares of a cent: 60 minutes of an hour, 10000 hundredths of a percent of a whole. */
    private static final int WHOLE = 10000;
    private static final int SHARES_OF_A_CENT = 600000;

    /** The first day of each MONTH; the last number is the day behind all. */
    private static final int[] MONTH_STARTS = {
        0, 31, 59, 90, 120, 151, 181, 212, 243, 273, 304, 334,
        365, 396, 424, 455, 485, 516, 546, 577, 608, 638, 669, 699,
        730, 761, 790, 821, 851, 882, 912, 943, 974, 1004, 1035, 1065,
        1096};

    private final boolean[] feasts = new boolean[DAYS];
    private int feastsTold;
    private final Group[] groups = new Group[GROUPS];
    private final Rules[] rules = new Rules[KINDS];
    private final Rates rates = new Rates();
    private final Surcharges surcharges = new Surcharges();
    private final Worker[] workers = new Worker[MOST_WORKERS];
    private int workersTold;
    private int marksOfAll;
    private int firstOpen;
    private final Sheet sheet = new Sheet();
    private final Tally tally = new Tally();

    public ShiftLedger() {
        for (int g = 0; g < GROUPS; g++) {
            groups[g] = new Group(g);
        }
        for (int k = 0; k < KINDS; k++) {
            rules[k] = new Rules();
        }
    }

    // ---- what is told

    public int worker(int group, int first) {
        Group its = findGroup(group);
        if (its == null || !isDay(first)) {
            return NONE;
        }
        if (workersTold >= MOST_WORKERS) {
            return FULL;
        }
        workers[workersTold] = new Worker(its, first);
        workersTold++;
        return workersTold - 1;
    }

    public int feast(int day) {
        if (!isDay(day)) {
            return NONE;
        }
        if (feasts[day]) {
            return 0;
        }
        feasts[day] = true;
        feastsTold++;
        return 1;
    }

    public int kind(int group, int weekday, int kind) {
        Group its = findGroup(group);
        if (its == null || !isWithin(kind, 0, KINDS - 1)) {
            return NONE;
        }
        if (!isWithin(weekday, 0, FEAST_PLACE)) {
            return BAD;
        }
        int was = its.kinds[weekday];
        its.kinds[weekday] = kind;
        return was;
    }

    public int rule(int kind, int what, int a, int b) {
        Rules its = findRules(kind);
        if (its == null || !isWithin(what, 0, RULES - 1)) {
            return NONE;
        }
        if (!isWithin(a, 0, HIGHEST_A[what]) || !isWithin(b, 0, HIGHEST_B[what])) {
            return BAD;
        }
        if (what == ROUND && !isRoundStep(a)) {
            return BAD;
        }
        its.a[what] = a;
        its.b[what] = b;
        return 0;
    }

    public int rate(int group, int day, int cents) {
        if (findGroup(group) == null || !isDay(day)) {
            return NONE;
        }
        if (!isWithin(cents, 0, MOST_CENTS)) {
            return BAD;
        }
        if (rates.size >= MOST_RATES) {
            return FULL;
        }
        rates.add(group, day, cents);
        return rates.size;
    }

    public int surcharge(int kinds, int from, int to, int p) {
        if (!isWithin(kinds, 0, 255) || !isMinuteOfDay(from) || !isMinuteOfDay(to)
            || !isWithin(p, 0, MOST_HUNDREDTHS)) {
            return BAD;
        }
        if (surcharges.size >= MOST_SURCHARGES) {
            return FULL;
        }
        surcharges.add(kinds, from, to, p);
        return surcharges.size - 1;
    }

    public int exclude(int s, int t) {
        if (!surcharges.has(s) || !surcharges.has(t)) {
            return NONE;
        }
        if (s == t) {
            return BAD;
        }
        return surcharges.setApart(s, t) ? 1 : 0;
    }

    public int target(int group, int weekday, int minutes) {
        Group its = findGroup(group);
        if (its == null) {
            return NONE;
        }
        if (!isWithin(weekday, 0, WEEKDAYS - 1) || !isWithin(minutes, 0, DAY_MINUTES)) {
            return BAD;
        }
        int was = its.targets[weekday];
        its.targets[weekday] = minutes;
        return was;
    }

    public int limits(int group, int low, int high) {
        Group its = findGroup(group);
        if (its == null) {
            return NONE;
        }
        if (!isWithin(low, -WIDEST_LIMIT, WIDEST_LIMIT) || !isWithin(high, low, WIDEST_LIMIT)) {
            return BAD;
        }
        its.low = low;
        its.high = high;
        return 0;
    }

    public int absent(int w, int from, int to) {
        Worker its = findWorker(w);
        if (its == null || !isDay(from) || !isDay(to)) {
            return NONE;
        }
        if (to < from) {
            return BAD;
        }
        if (its.absences >= MOST_ABSENCES) {
            return FULL;
        }
        its.addAbsence(from, to);
        return its.absences;
    }

    // ---- marks

    public int mark(int w, int day, int minute, int sort) {
        return enter(w, day, minute, sort, false);
    }

    public int late(int w, int day, int minute, int sort) {
        return enter(w, day, minute, sort, true);
    }

    public int unmark(int w, int day, int minute) {
        Worker its = findWorker(w);
        if (its == null || !isDay(day)) {
            return NONE;
        }
        if (!isMinuteOfDay(minute)) {
            return BAD;
        }
        int time = timeOf(day, minute);
        if (!its.marks.standsAt(time)) {
            return BAD;
        }
        if (isClosed(day)) {
            return STATE;
        }
        bookClosedDays(its, -1);
        its.marks.remove(time);
        marksOfAll--;
        bookClosedDays(its, 1);
        return its.marks.size;
    }

    public int marked(int w, int k, int what) {
        Worker its = findWorker(w);
        if (its == null || k < 0 || k >= its.marks.size) {
            return NONE;
        }
        switch (what) {
            case 0: return its.marks.times[k];
            case 1: return its.marks.sorts[k];
            case 2: return its.marks.roles[k];
            default: return NONE;
        }
    }

    // ---- days

    public int day(int group, int day, int what) {
        Group its = findGroup(group);
        if (its == null || !isDay(day)) {
            return NONE;
        }
        switch (what) {
            case 0: return monthOf(day);
            case 1: return feasts[day] ? 1 : 0;
            case 2: return kindOf(its, day);
            default: return NONE;
        }
    }

    public int shifts(int w, int day, int what) {
        Worker its = findWorker(w);
        if (its == null || !isDay(day) || !isWithin(what, 0, 1)) {
            return NONE;
        }
        return its.marks.amountOf(what == 0 ? BEGINS_ENDED : BEGINS_GAP, day, day + 1);
    }

    public int minute(int w, int day, int minute) {
        Worker its = findWorker(w);
        if (its == null || !isDay(day) || !isWithin(minute, 0, SHEET_MINUTES - 1)) {
            return NONE;
        }
        fillSheet(its, day);
        return sheet.classAt(minute);
    }

    public int minutes(int w, int day, int sort) {
        Worker its = findWorker(w);
        if (its == null || !isDay(day) || !isWithin(sort, 0, THERE)) {
            return NONE;
        }
        fillSheet(its, day);
        return sort == 0 ? sheet.amountOf(OVERTIME, THERE) : sheet.amountOf(sort, sort);
    }

    public int why(int w, int day, int k) {
        Worker its = findWorker(w);
        if (its == null || !isDay(day) || !isWithin(k, 0, OVER)) {
            return NONE;
        }
        fillSheet(its, day);
        // The CLASSES of what went are in the order of the steps: behind k steps those above k + 1 are left.
        return sheet.amountOf(BY_ROUND + k, THERE);
    }

    public int counts(int w, int day, int minute, int s, int what) {
        Worker its = findWorker(w);
        if (its == null || !isDay(day) || !isWithin(minute, 0, SHEET_MINUTES - 1)) {
            return NONE;
        }
        if (!surcharges.has(s) || !isWithin(what, 0, 1)) {
            return NONE;
        }
        fillSheet(its, day);
        if (sheet.classAt(minute) < OVERTIME) {
            return 0;
        }
        int met = surcharges.meeting(kindOf(its.group, day), minute % DAY_MINUTES);
        int asked = what == 1 ? met : surcharges.countingOf(met);
        return (asked >> s) & 1;
    }

    public long cents(int w, int day) {
        Worker its = findWorker(w);
        if (its == null || !isDay(day)) {
            return NONE;
        }
        fillSheet(its, day);
        return payOfSheet(its.group, day);
    }

    public int due(int w, int day) {
        Worker its = findWorker(w);
        if (its == null || !isDay(day)) {
            return NONE;
        }
        return dueOf(its, day);
    }

    // ---- months

    public int close() {
        if (firstOpen >= MONTHS) {
            return STATE;
        }
        for (int w = 0; w < workersTold; w++) {
            if (hasGap(workers[w], firstOpen)) {
                return STATE;
            }
        }
        for (int w = 0; w < workersTold; w++) {
            keepSayings(workers[w], firstOpen);
        }
        firstOpen++;
        return firstOpen - 1;
    }

    public int open() {
        return firstOpen;
    }

    public long month(int w, int m, int what) {
        Worker its = findWorker(w);
        if (its == null || !isMonth(m) || !isWithin(what, 0, SAYINGS - 1)) {
            return Long.MIN_VALUE;
        }
        return sayingOf(its, m, what);
    }

    public long sum(int group, int m, int what) {
        Group its = findGroup(group);
        if (its == null || !isMonth(m) || !isWithin(what, PAID, CENTS)) {
            return Long.MIN_VALUE;
        }
        long all = 0;
        for (int w = 0; w < workersTold; w++) {
            if (workers[w].group == its) {
                all += sayingOf(workers[w], m, what);
            }
        }
        return all;
    }

    public int count(int what) {
        switch (what) {
            case 0: return workersTold;
            case 1: return feastsTold;
            case 2: return rates.size;
            case 3: return surcharges.size;
            case 4: return marksOfAll;
            default: return NONE;
        }
    }

    // ---- what is there

    private static boolean isWithin(int number, int lowest, int highest) {
        return number >= lowest && number <= highest;
    }

    private static boolean isDay(int day) {
        return isWithin(day, 0, DAYS - 1);
    }

    private static boolean isMonth(int m) {
        return isWithin(m, 0, MONTHS - 1);
    }

    private static boolean isMinuteOfDay(int minute) {
        return isWithin(minute, 0, DAY_MINUTES - 1);
    }

    private static boolean isRoundStep(int a) {
        return a == 1 || a == 5 || a == 10 || a == 15 || a == 30;
    }

    private Worker findWorker(int w) {
        return w >= 0 && w < workersTold ? workers[w] : null;
    }

    private Group findGroup(int group) {
        return isWithin(group, 0, GROUPS - 1) ? groups[group] : null;
    }

    private Rules findRules(int kind) {
        return isWithin(kind, 0, KINDS - 1) ? rules[kind] : null;
    }

    // ---- the calendar

    private static int timeOf(int day, int minute) {
        return DAY_MINUTES * day + minute;
    }

    private static int monthOf(int day) {
        int m = 0;
        while (m < MONTHS - 1 && day >= MONTH_STARTS[m + 1]) {
            m++;
        }
        return m;
    }

    private boolean isClosed(int day) {
        return monthOf(day) < firstOpen;
    }

    private int kindOf(Group group, int day) {
        return group.kinds[feasts[day] ? FEAST_PLACE : day % WEEKDAYS];
    }

    private int dueOf(Worker worker, int day) {
        if (feasts[day] || day < worker.first || worker.isAway(day)) {
            return 0;
        }
        return worker.group.targets[day % WEEKDAYS];
    }

    // ---- marks that come

    private int enter(int w, int day, int minute, int sort, boolean behindClosing) {
        Worker its = findWorker(w);
        if (its == null || !isDay(day)) {
            return NONE;
        }
        if (!isMinuteOfDay(minute) || !isWithin(sort, COME, BACK) || day < its.first) {
            return BAD;
        }
        int time = timeOf(day, minute);
        if (its.marks.standsAt(time)) {
            return BAD;
        }
        if (isClosed(day) != behindClosing || firstOpen >= MONTHS) {
            return STATE;
        }
        if (its.marks.size >= MOST_MARKS_OF_ONE || marksOfAll >= MOST_MARKS_OF_ALL) {
            return FULL;
        }
        bookClosedDays(its, -1);
        its.marks.insert(time, sort);
        marksOfAll++;
        bookClosedDays(its, 1);
        return its.marks.size;
    }

    /**
     * Books the closed days as they are now, with a sign: taken off ahead of a change and added behind it, what
     * stays is what the change made of them. All of them are looked at, for a MARK may pair anew many behind it.
     */
    private void bookClosedDays(Worker worker, int sign) {
        if (firstOpen >= MONTHS) {
            return;
        }
        tallyDays(worker, 0, MONTH_STARTS[firstOpen]);
        worker.said[BOOKED_MINUTES][firstOpen] += sign * tally.paid;
        worker.said[BOOKED_CENTS][firstOpen] += sign * tally.cents;
    }

    // ---- days of a worker

    private void fillSheet(Worker worker, int day) {
        sheet.fill(worker.marks, worker.marks.placeOf(timeOf(day, 0)), day, rules[kindOf(worker.group, day)]);
    }

    /** Adds up the days from one to ahead of another; only days on which a SHIFT began can have anything. */
    private void tallyDays(Worker worker, int from, int to) {
        tally.paid = 0;
        tally.cents = 0;
        Marks marks = worker.marks;
        int done = from - 1;
        for (int k = marks.placeOf(timeOf(from, 0)); k < marks.size && marks.dayOf(k) < to; k++) {
            int day = marks.dayOf(k);
            if (marks.roles[k] == BEGINS_ENDED && day > done) {
                sheet.fill(marks, k, day, rules[kindOf(worker.group, day)]);
                tally.paid += sheet.amountOf(OVERTIME, THERE);
                tally.cents += payOfSheet(worker.group, day);
                done = day;
            }
        }
    }

    private long payOfSheet(Group group, int day) {
        int kind = kindOf(group, day);
        long shares = 0;
        for (int i = 0; i < sheet.size; i++) {
            if (sheet.classes[i] >= OVERTIME) {
                long each = WHOLE + (sheet.classes[i] == OVERTIME ? rules[kind].b[OVER] : 0);
                shares += each * (sheet.to[i] - sheet.from[i]);
                shares += surcharges.extraOver(kind, sheet.from[i], sheet.to[i]);
            }
        }
        return toCents(shares * rates.at(group.number, day));
    }

    private static long toCents(long shares) {
        long whole = shares / SHARES_OF_A_CENT;
        long twiceRest = shares % SHARES_OF_A_CENT * 2;
        boolean up = twiceRest > SHARES_OF_A_CENT || twiceRest == SHARES_OF_A_CENT && whole % 2 != 0;
        return up ? whole + 1 : whole;
    }

    // ---- months of a worker

    private static boolean hasGap(Worker worker, int m) {
        return worker.marks.amountOf(BEGINS_GAP, MONTH_STARTS[m], MONTH_STARTS[m + 1]) > 0;
    }

    private long sayingOf(Worker worker, int m, int what) {
        if (m < firstOpen || what >= BOOKED_MINUTES) {
            return worker.said[what][m];
        }
        if (what == FLEX) {
            return openFlex(worker, m);
        }
        tallyDays(worker, MONTH_STARTS[m], MONTH_STARTS[m + 1]);
        return what == PAID
            ? tally.paid + worker.said[BOOKED_MINUTES][m]
            : tally.cents + worker.said[BOOKED_CENTS][m];
    }

    /** Open MONTHS hand on their FLEX uncut, so all of them up to this one can be added at once. */
    private long openFlex(Worker worker, int m) {
        long flex = firstOpen > 0 ? worker.said[FLEX][firstOpen - 1] : 0;
        for (int i = firstOpen; i <= m; i++) {
            flex += worker.said[BOOKED_MINUTES][i];
        }
        int from = MONTH_STARTS[firstOpen];
        int to = MONTH_STARTS[m + 1];
        for (int day = from; day < to; day++) {
            flex -= dueOf(worker, day);
        }
        tallyDays(worker, from, to);
        return flex + tally.paid;
    }

    private void keepSayings(Worker worker, int m) {
        long flex = openFlex(worker, m);
        tallyDays(worker, MONTH_STARTS[m], MONTH_STARTS[m + 1]);
        worker.said[PAID][m] = tally.paid + worker.said[BOOKED_MINUTES][m];
        worker.said[CENTS][m] = tally.cents + worker.said[BOOKED_CENTS][m];
        worker.said[FLEX][m] = Math.max(worker.group.low, Math.min(worker.group.high, flex));
    }

    /** What a GROUP was told. */
    private static final class Group {
        final int number;
        final int[] kinds = new int[WEEKDAYS + 1];
        final int[] targets = new int[WEEKDAYS];
        int low;
        int high;

        Group(int number) {
            this.number = number;
        }
    }

    /** The RULES of a KIND, each with its a and b. */
    private static final class Rules {
        final int[] a = new int[RULES];
        final int[] b = new int[RULES];

        Rules() {
            a[ROUND] = 1;
        }
    }

    /** The RATES of all GROUPS, in the order in which they were told. */
    private static final class Rates {
        final int[] groups = new int[MOST_RATES];
        final int[] days = new int[MOST_RATES];
        final int[] amounts = new int[MOST_RATES];
        int size;

        void add(int group, int day, int amount) {
            if (size < MOST_RATES) {
                groups[size] = group;
                days[size] = day;
                amounts[size] = amount;
                size++;
            }
        }

        int at(int group, int day) {
            int amount = 0;
            int latest = 0;
            for (int i = 0; i < size; i++) {
                // Not only above: of two for the same day the one told later holds.
                if (groups[i] == group && days[i] <= day && days[i] >= latest) {
                    latest = days[i];
                    amount = amounts[i];
                }
            }
            return amount;
        }
    }

    /** The SURCHARGES; several of them at once are a number with a bit for each. */
    private static final class Surcharges {
        final int[] kinds = new int[MOST_SURCHARGES];
        final int[] from = new int[MOST_SURCHARGES];
        final int[] to = new int[MOST_SURCHARGES];
        final int[] p = new int[MOST_SURCHARGES];
        final int[] excluded = new int[MOST_SURCHARGES];
        int size;

        boolean has(int s) {
            return s >= 0 && s < size;
        }

        void add(int itsKinds, int itsFrom, int itsTo, int itsP) {
            if (size < MOST_SURCHARGES) {
                kinds[size] = itsKinds;
                from[size] = itsFrom;
                to[size] = itsTo;
                p[size] = itsP;
                size++;
            }
        }

        boolean setApart(int s, int t) {
            boolean isNew = (excluded[s] >> t & 1) == 0;
            excluded[s] |= 1 << t;
            excluded[t] |= 1 << s;
            return isNew;
        }

        int meeting(int kind, int minuteOfDay) {
            int met = 0;
            for (int s = 0; s < size; s++) {
                if ((kinds[s] >> kind & 1) == 1 && spans(s, minuteOfDay)) {
                    met |= 1 << s;
                }
            }
            return met;
        }

        boolean spans(int s, int minuteOfDay) {
            if (from[s] < to[s]) {
                return minuteOfDay >= from[s] && minuteOfDay < to[s];
            }
            return from[s] == to[s] || minuteOfDay >= from[s] || minuteOfDay < to[s];
        }

        /** One that does not COUNT itself still keeps others from it: it is enough that it MEETS. */
        int countingOf(int met) {
            int counting = 0;
            for (int s = 0; s < size; s++) {
                if ((met >> s & 1) == 1 && !isBeaten(s, met & excluded[s])) {
                    counting |= 1 << s;
                }
            }
            return counting;
        }

        boolean isBeaten(int s, int rivals) {
            for (int t = 0; t < size; t++) {
                if ((rivals >> t & 1) == 1 && (p[t] > p[s] || p[t] == p[s] && t < s)) {
                    return true;
                }
            }
            return false;
        }

        /** The p of those that COUNT, for each MINUTE from one to ahead of another, all added. */
        long extraOver(int kind, int first, int end) {
            long extra = 0;
            int next = first;
            for (int m = first; m < end; m = next) {
                int minuteOfDay = m % DAY_MINUTES;
                next = Math.min(end, m + Math.max(1, steadyFrom(minuteOfDay)));
                long each = extraOf(countingOf(meeting(kind, minuteOfDay)));
                extra += each * (next - m);
            }
            return extra;
        }

        /** For how long, from a minute on, no SURCHARGE begins or ends. */
        int steadyFrom(int minuteOfDay) {
            int steady = DAY_MINUTES;
            for (int s = 0; s < size; s++) {
                steady = Math.min(steady, wayTo(from[s], minuteOfDay));
                steady = Math.min(steady, wayTo(to[s], minuteOfDay));
            }
            return steady;
        }

        static int wayTo(int then, int now) {
            return then > now ? then - now : then - now + DAY_MINUTES;
        }

        int extraOf(int counting) {
            int extra = 0;
            for (int s = 0; s < size; s++) {
                if ((counting >> s & 1) == 1) {
                    extra += p[s];
                }
            }
            return extra;
        }
    }

    /** A WORKER with its MARKS, and what its MONTHS say: closed ones all, open ones what is BOOKED for them. */
    private static final class Worker {
        final Group group;
        final int first;
        final Marks marks = new Marks();
        final int[] awayFrom = new int[MOST_ABSENCES];
        final int[] awayTo = new int[MOST_ABSENCES];
        int absences;
        final long[][] said = new long[SAYINGS][MONTHS];

        Worker(Group group, int first) {
            this.group = group;
            this.first = first;
        }

        void addAbsence(int from, int to) {
            if (absences < MOST_ABSENCES) {
                awayFrom[absences] = from;
                awayTo[absences] = to;
                absences++;
            }
        }

        boolean isAway(int day) {
            for (int i = 0; i < absences; i++) {
                if (day >= awayFrom[i] && day <= awayTo[i]) {
                    return true;
                }
            }
            return false;
        }
    }

    /** The MARKS of a WORKER by TIME, each with its part in the SHIFTS, which is found anew with every change. */
    private static final class Marks {
        final int[] times = new int[MOST_MARKS_OF_ONE];
        final int[] sorts = new int[MOST_MARKS_OF_ONE];
        final int[] roles = new int[MOST_MARKS_OF_ONE];
        int size;

        int placeOf(int time) {
            int k = 0;
            while (k < size && times[k] < time) {
                k++;
            }
            return k;
        }

        boolean standsAt(int time) {
            int k = placeOf(time);
            return k < size && times[k] == time;
        }

        int dayOf(int k) {
            return times[k] / DAY_MINUTES;
        }

        void insert(int time, int sort) {
            if (size < MOST_MARKS_OF_ONE) {
                int k = placeOf(time);
                System.arraycopy(times, k, times, k + 1, size - k);
                System.arraycopy(sorts, k, sorts, k + 1, size - k);
                times[k] = time;
                sorts[k] = sort;
                size++;
                pairUp();
            }
        }

        void remove(int time) {
            if (standsAt(time)) {
                int k = placeOf(time);
                System.arraycopy(times, k + 1, times, k, size - k - 1);
                System.arraycopy(sorts, k + 1, sorts, k, size - k - 1);
                size--;
                pairUp();
            }
        }

        void pairUp() {
            int state = OUT;
            int come = 0;
            for (int k = 0; k < size; k++) {
                if (state != OUT && times[k] - times[come] > LONGEST_SHIFT) {
                    state = OUT;
                }
                int next = nextState(state, sorts[k]);
                if (next == state) {
                    roles[k] = DOUBLE;
                } else if (state == OUT) {
                    // A GAP, until its end is found.
                    roles[k] = BEGINS_GAP;
                    come = k;
                } else if (next == OUT) {
                    roles[k] = ENDS;
                    roles[come] = BEGINS_ENDED;
                } else {
                    roles[k] = BETWEEN;
                }
                state = next;
            }
        }

        static int nextState(int state, int sort) {
            if (state == OUT) {
                return sort == COME ? IN : OUT;
            }
            if (sort == GO) {
                return OUT;
            }
            if (state == IN) {
                return sort == PAUSE ? PAUSED : IN;
            }
            return sort == BACK ? IN : PAUSED;
        }

        /** The place of the END of a SHIFT that ends: its GO, or the PAUSE that the GO follows. */
        int endOf(int come) {
            int last = come;
            for (int k = come + 1; k < size; k++) {
                if (roles[k] == ENDS) {
                    return sorts[last] == PAUSE ? last : k;
                }
                if (roles[k] == BETWEEN) {
                    last = k;
                }
            }
            return last;
        }

        /** How many MARKS play a role on the days from one to ahead of another. */
        int amountOf(int role, int from, int to) {
            int amount = 0;
            for (int k = placeOf(timeOf(from, 0)); k < size && dayOf(k) < to; k++) {
                if (roles[k] == role) {
                    amount++;
                }
            }
            return amount;
        }
    }

    /** The MINUTES of one day as spans of one CLASS each, by time; those in no span are of CLASS 0. */
    private static final class Sheet {
        final int[] from = new int[MOST_SPANS];
        final int[] to = new int[MOST_SPANS];
        final int[] classes = new int[MOST_SPANS];
        int size;

        /** Fills the sheet with a day, whose MARKS begin with the k-th. */
        void fill(Marks marks, int k, int day, Rules rules) {
            size = 0;
            int begin = timeOf(day, 0);
            int step = rules.a[ROUND];
            for (int i = k; i < marks.size && marks.times[i] - begin < DAY_MINUTES; i++) {
                if (marks.roles[i] == BEGINS_ENDED) {
                    int first = size;
                    layShift(marks, i, begin);
                    if (step > 1 && first < size) {
                        int come = (from[first] + step - 1) / step * step;
                        int end = to[size - 1] / step * step;
                        takeOutside(come, end, from[first], BY_ROUND);
                    }
                }
            }
            if (rules.b[FRAME] > 0) {
                takeOutside(rules.a[FRAME], rules.b[FRAME], 0, BY_FRAME);
            }
            int there = amountOf(THERE, THERE);
            int missing = rules.b[OWED] - amountOf(REST, REST);
            if (missing > 0 && there > rules.a[OWED]) {
                turnBehind(there - missing, BY_OWED);
            }
            if (rules.a[MOST] > 0) {
                turnBehind(rules.a[MOST], BY_MOST);
            }
            if (rules.a[OVER] > 0) {
                turnBehind(rules.a[OVER], OVERTIME);
            }
        }

        /** PARTS and RESTS take turns, from the COME to the END, and always a PART is the last. */
        void layShift(Marks marks, int come, int begin) {
            int end = marks.endOf(come);
            boolean resting = false;
            int since = marks.times[come] - begin;
            for (int i = come + 1; i <= end && i < marks.size; i++) {
                if (marks.roles[i] != DOUBLE) {
                    int at = marks.times[i] - begin;
                    add(since, at, resting ? REST : THERE);
                    resting = !resting;
                    since = at;
                }
            }
        }

        void add(int itsFrom, int itsTo, int itsClass) {
            if (size < MOST_SPANS) {
                from[size] = itsFrom;
                to[size] = itsTo;
                classes[size] = itsClass;
                size++;
            }
        }

        /** Of what is there since a minute, all below the lowest one and all from the end on gets a CLASS. */
        void takeOutside(int lowest, int end, int since, int itsClass) {
            cutAt(lowest);
            cutAt(end);
            for (int i = 0; i < size; i++) {
                if (classes[i] == THERE && from[i] >= since && (from[i] < lowest || from[i] >= end)) {
                    classes[i] = itsClass;
                }
            }
        }

        /** Of what is there, all behind the first ones gets a CLASS. */
        void turnBehind(int firstOnes, int itsClass) {
            int left = Math.max(0, firstOnes);
            for (int i = 0; i < size; i++) {
                if (classes[i] == THERE) {
                    if (left == 0) {
                        classes[i] = itsClass;
                    } else if (to[i] - from[i] > left) {
                        // What is cut off is the next span, and has no one left ahead of it.
                        cutAt(from[i] + left);
                        left = 0;
                    } else {
                        left -= to[i] - from[i];
                    }
                }
            }
        }

        /** Makes two spans of the one that goes over a minute's beginning, if there is such a one. */
        void cutAt(int minute) {
            int i = 0;
            while (i < size && to[i] <= minute) {
                i++;
            }
            if (i < size && from[i] < minute && size < MOST_SPANS) {
                System.arraycopy(from, i, from, i + 1, size - i);
                System.arraycopy(to, i, to, i + 1, size - i);
                System.arraycopy(classes, i, classes, i + 1, size - i);
                to[i] = minute;
                from[i + 1] = minute;
                size++;
            }
        }

        int classAt(int minute) {
            for (int i = 0; i < size; i++) {
                if (minute >= from[i] && minute < to[i]) {
                    return classes[i];
                }
            }
            return NOTHING;
        }

        /** How many MINUTES have a CLASS from the lowest to the highest. */
        int amountOf(int lowest, int highest) {
            int amount = 0;
            for (int i = 0; i < size; i++) {
                if (classes[i] >= lowest && classes[i] <= highest) {
                    amount += to[i] - from[i];
                }
            }
            return amount;
        }
    }

    /** What days add up to. */
    private static final class Tally {
        long paid;
        long cents;
    }
}
