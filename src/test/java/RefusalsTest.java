import java.util.ArrayList;
import java.util.List;
import java.util.function.Supplier;

/**
 * Part 5 of the terms, and the numbers that each call takes. Each call is made with the smallest and the largest of
 * each number, then with one number that it refuses, then with two: of several refusals the first one told in the
 * order NONE, BAD, STATE, FULL is due, and behind each of them all must be as without the call.
 */
public final class RefusalsTest {
    private static final int NONE = -1, BAD = -2, STATE = -3, FULL = -4, TAKEN = -5;
    private static final int LEAST = Integer.MIN_VALUE, GREATEST = Integer.MAX_VALUE;
    private static final int COME = 0, GO = 1, PAUSE = 2, BACK = 3;
    private static final List<Call> LOOKS = new ArrayList<>();
    private static int wrong = 0;
    private static int refusals = 0;

    private interface Call {
        long on(ShiftLedger x, int... a);
    }

    /** Numbers that a call takes in one place, and such as it refuses there, each with its refusal. */
    private static final class Numbers {
        final List<Integer> taken = new ArrayList<>();
        final List<int[]> refused = new ArrayList<>();

        Numbers take(int... numbers) {
            for (int number : numbers) taken.add(number);
            return this;
        }

        Numbers refuse(int refusal, int... numbers) {
            for (int number : numbers) refused.add(new int[] {number, refusal});
            return this;
        }
    }

    private static Numbers from(int lowest, int highest, int refusal) {
        return new Numbers().take(lowest, highest).refuse(refusal, lowest - 1, highest + 1, LEAST, GREATEST);
    }

    /** An object in some state; it refuses even good numbers, if the refusal is not TAKEN. */
    private static final class Scene {
        final String name;
        final int refusal;
        final Supplier<ShiftLedger> maker;
        /** How many calls may be made on it behind those that made it. */
        final int room;
        final List<Long> untouched;

        Scene(String name, int refusal, int room, Supplier<ShiftLedger> maker) {
            this.name = name;
            this.refusal = refusal;
            this.room = room;
            this.maker = maker;
            untouched = look(maker.get(), room);
        }
    }

    public static void main(String[] args) {
        addLooks();
        addLooksThatChange();
        telling();
        rules();
        surcharges();
        groups();
        absences();
        marks();
        lates();
        unmarks();
        asking();
        closing();
        System.out.println(refusals + " refusals, " + (wrong == 0 ? "all are as due" : wrong + " are not as due"));
        if (wrong != 0) System.exit(1);
    }

    // ---- what is there to be seen

    private static void addLooks() {
        for (int i = 0; i < 5; i++) {
            int what = i;
            LOOKS.add((x, a) -> x.count(what));
        }
        LOOKS.add((x, a) -> x.open());
        for (int i = 0; i < 30; i++) {
            int k = i;
            LOOKS.add((x, a) -> x.marked(k / 15, k / 3 % 5, k % 3));
        }
        for (int i = 0; i < 20; i++) {
            int n = i;
            LOOKS.add((x, a) -> x.month(n / 10, n / 5 % 2, n % 5));
        }
        for (int i = 0; i < 30; i++) {
            int k = i;
            LOOKS.add((x, a) -> x.marked(k / 15, 5 + k / 3 % 5, k % 3));
        }
        for (int i = 0; i < 28; i++) {
            int n = i;
            LOOKS.add((x, a) -> x.due(n / 14, n % 14 + 35 * (n / 14)));
        }
        for (int i = 0; i < 12; i++) {
            int n = i;
            int[] days = {1, 2, 5, 6, 36, 40};
            LOOKS.add((x, a) -> x.cents(n / 6, days[n % 6]));
            LOOKS.add((x, a) -> x.minutes(n / 6, days[n % 6], 0));
        }
        for (int i = 0; i < 8; i++) {
            int n = i;
            LOOKS.add((x, a) -> x.sum(n / 4, n / 2 % 2, n % 2));
            LOOKS.add((x, a) -> x.day(0, n, 1));
        }
        for (int i = 0; i < 6; i++) {
            int n = i;
            LOOKS.add((x, a) -> x.counts(0, 1, 350, n % 3, n / 3));
        }
    }

    /** Some things can be seen only by telling others, which may be done when the object isn't needed any more. */
    private static void addLooksThatChange() {
        for (int i = 0; i < 8; i++) {
            int kind = i;
            LOOKS.add((x, a) -> x.kind(0, 1, kind));
            for (int j = 1; j <= 4; j++) {
                int step = j;
                LOOKS.add((x, a) -> x.why(0, 1, step));
            }
            LOOKS.add((x, a) -> x.minutes(0, 1, 6));
            LOOKS.add((x, a) -> x.cents(0, 1));
        }
        LOOKS.add((x, a) -> x.close());
        LOOKS.add((x, a) -> x.month(0, 0, 2));
        LOOKS.add((x, a) -> x.month(0, 1, 2));
        LOOKS.add((x, a) -> x.month(1, 1, 2));
        for (int i = 0; i < 48; i++) {
            int n = i;
            LOOKS.add((x, a) -> x.kind(n / 8, n % 8, 0));
            LOOKS.add((x, a) -> x.target(n / 8, n % 8, 0));
        }
        LOOKS.add((x, a) -> x.exclude(0, 1));
        LOOKS.add((x, a) -> x.exclude(0, 2));
        LOOKS.add((x, a) -> x.exclude(1, 2));
        LOOKS.add((x, a) -> x.absent(0, 0, 0));
        LOOKS.add((x, a) -> x.absent(1, 0, 0));
        LOOKS.add((x, a) -> x.rate(0, 0, 1));
        LOOKS.add((x, a) -> x.surcharge(1, 0, 0, 1));
        LOOKS.add((x, a) -> x.worker(0, 0));
    }

    private static List<Long> look(ShiftLedger x, int room) {
        List<Long> seen = new ArrayList<>();
        for (int i = 0; i < LOOKS.size() && i < room; i++) seen.add(LOOKS.get(i).on(x));
        return seen;
    }

    // ---- the call made in all ways

    private static void refused(String name, Scene scene, Call call, int want, int... a) {
        ShiftLedger x = scene.maker.get();
        long got = call.on(x, a);
        refusals++;
        String which = name + show(a) + " of " + scene.name;
        long due = want == NONE && isOfMonths(name) ? Long.MIN_VALUE : want;
        if (got != due) {
            wrong++;
            System.out.println(which + " answered " + got + ", due is " + due);
        }
        if (!look(x, scene.room).equals(scene.untouched)) {
            wrong++;
            System.out.println(which + " changed something");
        }
    }

    private static boolean isOfMonths(String name) {
        return name.equals("26: month") || name.equals("27: sum");
    }

    private static void taken(String name, Scene scene, Call call, int... a) {
        long got = call.on(scene.maker.get(), a);
        if (got < 0) {
            wrong++;
            System.out.println(name + show(a) + " of " + scene.name + " answered " + got + ", due is no refusal");
        }
    }

    private static String show(int[] a) {
        StringBuilder text = new StringBuilder("(");
        for (int i = 0; i < a.length; i++) text.append(i == 0 ? "" : ", ").append(a[i]);
        return text.append(")").toString();
    }

    private static int[] with(int[] good, int place, int number) {
        int[] a = good.clone();
        a[place] = number;
        return a;
    }

    /** The refusals are numbered down in their order, so that the greatest is the first one told. */
    private static void all(String name, Call call, Scene scene, int[] good, Numbers... numbers) {
        if (scene.refusal == TAKEN) {
            taken(name, scene, call, good);
            for (int i = 0; i < numbers.length; i++) {
                for (int number : numbers[i].taken) taken(name, scene, call, with(good, i, number));
            }
        } else {
            refused(name, scene, call, scene.refusal, good);
        }
        for (int i = 0; i < numbers.length; i++) {
            for (int[] one : numbers[i].refused) {
                int[] a = with(good, i, one[0]);
                int refusal = Math.max(one[1], scene.refusal);
                refused(name, scene, call, refusal, a);
                for (int j = i + 1; j < numbers.length; j++) {
                    for (int[] other : numbers[j].refused) {
                        refused(name, scene, call, Math.max(refusal, other[1]), with(a, j, other[0]));
                    }
                }
            }
        }
    }

    // ---- objects in some states

    /** Two workers, from days 1 and 35 on, with something told of everything; no shift is a gap. */
    private static ShiftLedger plain() {
        ShiftLedger x = new ShiftLedger();
        x.worker(0, 1);
        x.worker(1, 35);
        x.feast(3);
        x.kind(0, 2, 2);
        x.kind(0, 7, 3);
        x.kind(1, 5, 1);
        x.rule(0, 1, 90, 2000);
        x.rule(0, 3, 280, 0);
        x.rule(0, 4, 200, 5000);
        x.rule(2, 0, 5, 0);
        x.rate(0, 0, 1001);
        x.rate(1, 36, 2000);
        x.surcharge(255, 0, 600, 1000);
        x.surcharge(255, 300, 900, 2000);
        x.surcharge(1, 0, 0, 500);
        x.exclude(0, 1);
        for (int weekday = 0; weekday < 7; weekday++) x.target(weekday % 2, weekday, 100 + weekday);
        x.limits(0, -50, 500);
        x.absent(0, 8, 9);
        int[][] marks = {{0, 1, 300, COME}, {0, 1, 361, PAUSE}, {0, 1, 370, BACK}, {0, 1, 600, GO}, {0, 2, 103, COME},
            {0, 2, 299, GO}, {1, 36, 1400, COME}, {1, 37, 30, GO}, {1, 40, 200, GO}};
        for (int[] mark : marks) x.mark(mark[0], mark[1], mark[2], mark[3]);
        // On all days that marks are told for below, minute 200 has one already, and minute 100 has none.
        int[] days = {1, 5, 30, 31, 40, 1065, 1095};
        for (int day : days) x.mark(0, day, 200, GO);
        return x;
    }

    private static ShiftLedger closed(ShiftLedger x, int months) {
        for (int m = 0; m < months; m++) x.close();
        return x;
    }

    /** The first worker has 400 marks: 387 on other days, to the 13 of the plain one. */
    private static ShiftLedger fullOfMarks() {
        ShiftLedger x = plain();
        for (int i = 0; i < 387; i++) x.mark(0, 100 + i, i, GO);
        return x;
    }

    private static ShiftLedger fullOfWorkers() {
        ShiftLedger x = plain();
        for (int i = 2; i < 30; i++) x.worker(i % 6, i);
        return x;
    }

    private static ShiftLedger fullOfRates() {
        ShiftLedger x = plain();
        for (int i = 2; i < 60; i++) x.rate(i % 6, 100 + i, i);
        return x;
    }

    private static ShiftLedger fullOfSurcharges() {
        ShiftLedger x = plain();
        for (int i = 3; i < 12; i++) x.surcharge(i, i, 2 * i, i);
        return x;
    }

    private static ShiftLedger fullOfAbsences() {
        ShiftLedger x = plain();
        for (int i = 1; i < 20; i++) x.absent(0, 100 + i, 200 - i);
        return x;
    }

    private static final int MUCH = 400, LITTLE = 70;

    private static Scene plainScene() {
        return new Scene("a plain one", TAKEN, MUCH, () -> plain());
    }

    private static Numbers days() {
        return from(0, 1095, NONE);
    }

    private static Numbers groupNumbers() {
        return from(0, 5, NONE);
    }

    private static Numbers workerNumbers() {
        return from(0, 1, NONE);
    }

    // ---- promises 2 to 11

    private static void telling() {
        Scene plain = plainScene();
        Call worker = (x, a) -> x.worker(a[0], a[1]);
        all("2: worker", worker, plain, new int[] {2, 10}, groupNumbers(), days());
        Scene workers = new Scene("one with 30 workers", FULL, MUCH, () -> fullOfWorkers());
        all("2: worker", worker, workers, new int[] {2, 10}, groupNumbers(), days());
        all("3: feast", (x, a) -> x.feast(a[0]), plain, new int[] {10}, days());
        Call rate = (x, a) -> x.rate(a[0], a[1], a[2]);
        all("6: rate", rate, plain, new int[] {2, 10, 50}, groupNumbers(), days(), from(0, 100000, BAD));
        Scene rates = new Scene("one with 60 rates", FULL, MUCH, () -> fullOfRates());
        all("6: rate", rate, rates, new int[] {2, 10, 50}, groupNumbers(), days(), from(0, 100000, BAD));
    }

    private static void rules() {
        Call rule = (x, a) -> x.rule(a[0], a[1], a[2], a[3]);
        Numbers kinds = from(0, 7, NONE);
        Numbers rules = new Numbers().refuse(NONE, -1, 5, LEAST, GREATEST);
        Numbers steps = new Numbers().take(1, 5, 10, 15, 30)
            .refuse(BAD, 0, 2, 4, 6, 9, 11, 14, 16, 20, 29, 31, 60, -1, -5, LEAST, GREATEST);
        Numbers zero = new Numbers().take(0).refuse(BAD, -1, 1, LEAST, GREATEST);
        Numbers minutes = from(0, 2880, BAD);
        Scene plain = plainScene();
        all("5: rule", rule, plain, new int[] {1, 0, 15, 0}, kinds, rules, steps, zero);
        all("5: rule", rule, plain, new int[] {1, 1, 100, 200}, kinds, rules, minutes, from(0, 2880, BAD));
        all("5: rule", rule, plain, new int[] {1, 2, 100, 200}, kinds, rules, minutes, from(0, 600, BAD));
        all("5: rule", rule, plain, new int[] {1, 3, 100, 0}, kinds, rules, minutes, zero);
        all("5: rule", rule, plain, new int[] {1, 4, 100, 200}, kinds, rules, minutes, from(0, 20000, BAD));
    }

    private static void surcharges() {
        Call surcharge = (x, a) -> x.surcharge(a[0], a[1], a[2], a[3]);
        Numbers[] numbers = {from(0, 255, BAD), from(0, 1439, BAD), from(0, 1439, BAD), from(0, 20000, BAD)};
        Scene plain = plainScene();
        all("7: surcharge", surcharge, plain, new int[] {9, 100, 200, 300}, numbers);
        Scene full = new Scene("one with 12 surcharges", FULL, MUCH, () -> fullOfSurcharges());
        all("7: surcharge", surcharge, full, new int[] {9, 100, 200, 300}, numbers);
        Call exclude = (x, a) -> x.exclude(a[0], a[1]);
        Numbers first = new Numbers().take(0, 1).refuse(NONE, -1, 3, LEAST, GREATEST);
        Numbers second = new Numbers().take(1, 2).refuse(NONE, -1, 3, LEAST, GREATEST).refuse(BAD, 0);
        all("8: exclude", exclude, plain, new int[] {0, 2}, first, second);
        refused("8: exclude", plain, exclude, BAD, 2, 2);
        refused("8: exclude", plain, exclude, NONE, 3, 3);
        refused("8: exclude", plain, exclude, NONE, -1, -1);
        Scene none = new Scene("one without surcharges", TAKEN, MUCH, () -> new ShiftLedger());
        refused("8: exclude", none, exclude, NONE, 0, 0);
        refused("8: exclude", none, exclude, NONE, 0, 1);
        taken("8: exclude", full, exclude, 11, 0);
        taken("8: exclude", full, exclude, 0, 11);
        refused("8: exclude", full, exclude, NONE, 12, 0);
        refused("8: exclude", full, exclude, NONE, 0, 12);
        refused("8: exclude", full, exclude, BAD, 11, 11);
    }

    private static void groups() {
        Scene plain = plainScene();
        all("4: kind", (x, a) -> x.kind(a[0], a[1], a[2]), plain, new int[] {3, 3, 3},
            groupNumbers(), from(0, 7, BAD), from(0, 7, NONE));
        all("9: target", (x, a) -> x.target(a[0], a[1], a[2]), plain, new int[] {3, 3, 300},
            groupNumbers(), from(0, 6, BAD), from(0, 1440, BAD));
        Numbers low = new Numbers().take(-100000, 9).refuse(BAD, -100001, 10, 100000, 100001, LEAST, GREATEST);
        Numbers high = new Numbers().take(-7, 100000).refuse(BAD, -8, -100000, -100001, 100001, LEAST, GREATEST);
        Call limits = (x, a) -> x.limits(a[0], a[1], a[2]);
        all("10: limits", limits, plain, new int[] {0, -7, 9}, groupNumbers(), low, high);
        taken("10: limits", plain, limits, 0, -100000, -100000);
        taken("10: limits", plain, limits, 0, 100000, 100000);
        refused("10: limits", plain, limits, BAD, 0, 100001, 100001);
        refused("10: limits", plain, limits, BAD, 0, -100001, -100001);
    }

    private static void absences() {
        Call absent = (x, a) -> x.absent(a[0], a[1], a[2]);
        Numbers from = new Numbers().take(0, 20).refuse(NONE, -1, 1096, LEAST, GREATEST).refuse(BAD, 21, 1095);
        Numbers to = new Numbers().take(10, 1095).refuse(NONE, -1, 1096, LEAST, GREATEST).refuse(BAD, 9, 0);
        all("11: absent", absent, plainScene(), new int[] {0, 10, 20}, workerNumbers(), from, to);
        Scene full = new Scene("one with 20 absences", FULL, MUCH, () -> fullOfAbsences());
        all("11: absent", absent, full, new int[] {0, 10, 20}, new Numbers().refuse(NONE, -1, 2), from, to);
        taken("11: absent", full, absent, 1, 10, 20);
    }

    // ---- promises 12 to 14

    private static final Call MARK = (x, a) -> x.mark(a[0], a[1], a[2], a[3]);
    private static final Call LATE = (x, a) -> x.late(a[0], a[1], a[2], a[3]);
    private static final Call UNMARK = (x, a) -> x.unmark(a[0], a[1], a[2]);

    private static Numbers minutesOfMarks() {
        return from(0, 1439, BAD).refuse(BAD, 200);
    }

    private static Numbers noDays() {
        return new Numbers().refuse(NONE, -1, 1096, LEAST, GREATEST).refuse(BAD, 0);
    }

    private static void marks() {
        int[] good = {0, 40, 100, BACK};
        Numbers sorts = from(0, 3, BAD);
        Numbers workers = from(0, 1, NONE);
        Numbers others = new Numbers().refuse(NONE, -1, 2, LEAST, GREATEST);
        all("12: mark", MARK, plainScene(), good, workers, noDays().take(1, 39, 41, 1095), minutesOfMarks(), sorts);
        Scene closed = new Scene("one with a closed month", TAKEN, MUCH, () -> closed(plain(), 1));
        all("12: mark", MARK, closed, good, workers, noDays().take(31, 1095).refuse(STATE, 1, 30), minutesOfMarks(), sorts);
        Scene all = new Scene("one with all closed", STATE, MUCH, () -> closed(plain(), 36));
        all("12: mark", MARK, all, good, others, noDays(), minutesOfMarks(), sorts);
        Scene full = new Scene("a full one", FULL, LITTLE, () -> fullOfMarks());
        all("12: mark", MARK, full, good, others, noDays(), minutesOfMarks(), sorts);
        taken("12: mark", full, MARK, 1, 40, 100, BACK);
        Scene both = new Scene("a full one with a closed month", FULL, LITTLE, () -> closed(fullOfMarks(), 1));
        all("12: mark", MARK, both, good, others, noDays().refuse(STATE, 1, 30), minutesOfMarks(), sorts);
        refused("12: mark", plainScene(), MARK, BAD, 1, 34, 1439, COME);
        taken("12: mark", plainScene(), MARK, 1, 35, 0, COME);
        refused("12: mark", closed, MARK, BAD, 0, 5, 200, COME);
    }

    private static void lates() {
        int[] good = {0, 5, 100, BACK};
        Numbers sorts = from(0, 3, BAD);
        Numbers others = new Numbers().refuse(NONE, -1, 2, LEAST, GREATEST);
        Scene closed = new Scene("one with a closed month", TAKEN, MUCH, () -> closed(plain(), 1));
        all("13: late", LATE, closed, good, others, noDays().take(1, 30).refuse(STATE, 31, 1095), minutesOfMarks(), sorts);
        Scene most = new Scene("one with all but one closed", TAKEN, MUCH, () -> closed(plain(), 35));
        all("13: late", LATE, most, good, others, noDays().take(1, 1064).refuse(STATE, 1065, 1095), minutesOfMarks(), sorts);
        Scene open = new Scene("one with none closed", STATE, MUCH, () -> plain());
        all("13: late", LATE, open, good, others, noDays().refuse(STATE, 1, 30, 31), minutesOfMarks(), sorts);
        Scene all = new Scene("one with all closed", STATE, MUCH, () -> closed(plain(), 36));
        all("13: late", LATE, all, good, others, noDays().refuse(STATE, 1, 1095), minutesOfMarks(), sorts);
        Scene full = new Scene("a full one with a closed month", FULL, LITTLE, () -> closed(fullOfMarks(), 1));
        all("13: late", LATE, full, good, others, noDays().refuse(STATE, 31, 1095), minutesOfMarks(), sorts);
        refused("13: late", most, LATE, BAD, 1, 34, 1439, COME);
        taken("13: late", most, LATE, 1, 35, 0, COME);
        refused("13: late", new Scene("a full one", STATE, LITTLE, () -> fullOfMarks()), LATE, STATE, good);
    }

    private static void unmarks() {
        Numbers workers = from(0, 1, NONE);
        Numbers others = new Numbers().refuse(NONE, -1, 2, LEAST, GREATEST);
        Numbers minutes = new Numbers().take(200).refuse(BAD, -1, 1440, 199, 201, LEAST, GREATEST);
        int[] good = {0, 40, 200};
        all("14: unmark", UNMARK, plainScene(), good, workers, noDays().refuse(BAD, 39, 41), minutes);
        Scene closed = new Scene("one with a closed month", TAKEN, MUCH, () -> closed(plain(), 1));
        all("14: unmark", UNMARK, closed, good, others, noDays().refuse(BAD, 6).refuse(STATE, 5), minutes);
        Scene both = new Scene("one with two closed", STATE, MUCH, () -> closed(plain(), 2));
        all("14: unmark", UNMARK, both, good, others, noDays().refuse(BAD, 6).refuse(STATE, 5), minutes);
        Scene full = new Scene("a full one", TAKEN, LITTLE, () -> fullOfMarks());
        all("14: unmark", UNMARK, full, good, workers, noDays(), minutes);
        Scene ends = new Scene("one with the first and the last time", TAKEN, MUCH, () -> firstAndLastTime());
        taken("14: unmark", ends, UNMARK, 0, 0, 0);
        taken("14: unmark", ends, UNMARK, 0, 1095, 1439);
        refused("14: unmark", ends, UNMARK, BAD, 0, 1095, 1438);
        refused("14: unmark", ends, UNMARK, BAD, 0, 0, 1);
        refused("14: unmark", ends, UNMARK, BAD, 0, 1, -1440);
    }

    private static ShiftLedger firstAndLastTime() {
        ShiftLedger x = new ShiftLedger();
        x.worker(0, 0);
        x.mark(0, 0, 0, PAUSE);
        x.mark(0, 1095, 1439, PAUSE);
        return x;
    }

    // ---- promises 15 to 23 and 26 to 28: these change nothing, even where they do answer.

    private static void asking() {
        Numbers two = from(0, 1, NONE);
        Numbers minutes = from(0, 2879, NONE);
        Numbers marks = from(0, 12, NONE);
        asked("15: marked", (x, a) -> x.marked(a[0], a[1], a[2]), new int[] {0, 2, 1}, workerNumbers(), marks, from(0, 2, NONE));
        asked("16: day", (x, a) -> x.day(a[0], a[1], a[2]), new int[] {0, 2, 2}, groupNumbers(), days(), from(0, 2, NONE));
        asked("17: shifts", (x, a) -> x.shifts(a[0], a[1], a[2]), new int[] {0, 2, 0}, workerNumbers(), days(), two);
        asked("18: minute", (x, a) -> x.minute(a[0], a[1], a[2]), new int[] {0, 2, 150}, workerNumbers(), days(), minutes);
        asked("19: minutes", (x, a) -> x.minutes(a[0], a[1], a[2]), new int[] {0, 2, 1}, workerNumbers(), days(), from(0, 7, NONE));
        asked("20: why", (x, a) -> x.why(a[0], a[1], a[2]), new int[] {0, 2, 1}, workerNumbers(), days(), from(0, 4, NONE));
        asked("21: counts", (x, a) -> x.counts(a[0], a[1], a[2], a[3], a[4]), new int[] {0, 2, 150, 1, 1},
            workerNumbers(), days(), minutes, from(0, 2, NONE), two);
        asked("22: cents", (x, a) -> x.cents(a[0], a[1]), new int[] {0, 2}, workerNumbers(), days());
        asked("23: due", (x, a) -> x.due(a[0], a[1]), new int[] {0, 2}, workerNumbers(), days());
        asked("26: month", (x, a) -> x.month(a[0], a[1], a[2]), new int[] {0, 2, 1}, workerNumbers(), from(0, 35, NONE), from(0, 4, NONE));
        asked("27: sum", (x, a) -> x.sum(a[0], a[1], a[2]), new int[] {0, 2, 1}, groupNumbers(), from(0, 35, NONE), two);
        asked("28: count", (x, a) -> x.count(a[0]), new int[] {1}, from(0, 4, NONE));
        asked("25: open", (x, a) -> x.open(), new int[0]);
    }

    private static void asked(String name, Call call, int[] good, Numbers... numbers) {
        Scene plain = plainScene();
        all(name, call, plain, good, numbers);
        ShiftLedger x = plain.maker.get();
        call.on(x, good);
        for (int i = 0; i < numbers.length; i++) {
            for (int number : numbers[i].taken) call.on(x, with(good, i, number));
        }
        if (!look(x, plain.room).equals(plain.untouched)) {
            wrong++;
            System.out.println(name + " changed something where it answered");
        }
        if (numbers.length > 0 && !name.startsWith("16") && !name.startsWith("27") && !name.startsWith("28")) {
            Scene none = new Scene("one without workers", TAKEN, MUCH, () -> new ShiftLedger());
            refused(name, none, call, NONE, with(good, 0, 0));
        }
    }

    // ---- promise 24

    private static void closing() {
        Call close = (x, a) -> x.close();
        Scene plain = plainScene();
        taken("24: close", plain, close);
        refused("24: close", new Scene("one with all closed", STATE, MUCH, () -> closed(plain(), 36)), close, STATE);
        refused("24: close", new Scene("one with a gap", STATE, MUCH, () -> withGap(0)), close, STATE);
        refused("24: close", new Scene("one with a gap in its last month", STATE, MUCH, () -> withGap(35)), close, STATE);
    }

    private static ShiftLedger withGap(int months) {
        ShiftLedger x = closed(plain(), months);
        x.mark(0, months == 0 ? 20 : 1095, 1439, COME);
        return x;
    }
}
