import java.time.LocalDate;
import java.util.Objects;
import java.util.TreeSet;
import java.util.function.Supplier;

/**
 * Long runs of mixed calls on a Calendaract and on a model over java.time: each pair of answers,
 * or of exceptions, is compared, and both states behind it.
 */
public final class ModelTest {
    private static final int RUNS = 1500;
    private static final int STEPS = 240;
    private static final int KINDS = 50;

    private static long seed = 20261118;
    private static int wrong = 0;

    public static void main(String[] args) {
        boolean[] isAnswered = new boolean[KINDS];
        for (int run = 0; run < RUNS && wrong < 20; run++) {
            Calendaract x = new Calendaract();
            Model y = new Model();
            for (int step = 0; step < STEPS && wrong < 20; step++) {
                isAnswered[compareOne(x, y, run, step)] = true;
            }
        }
        for (int kind = 0; kind < KINDS; kind++) {
            if (!isAnswered[kind]) {
                wrong++;
                System.out.println("no call of kind " + kind);
            }
        }
        System.out.println(wrong == 0 ? "all answers are the model's" : wrong + " answers are not");
        if (wrong != 0) {
            System.exit(1);
        }
    }

    // ---- arguments, near to the edges more often than not

    private static int below(int bound) {
        seed = seed * 6364136223846793005L + 1442695040888963407L;
        return (int) ((seed >>> 33) % bound);
    }

    private static int place() {
        int pick = below(40);
        return pick == 0 ? -1 : pick == 1 ? 6 : pick == 2 ? Integer.MIN_VALUE : below(6);
    }

    private static int spanPlace() {
        int pick = below(40);
        return pick == 0 ? -1 : pick == 1 ? 3 : pick == 2 ? Integer.MAX_VALUE : below(3);
    }

    private static int within(int least, int most) {
        switch (below(24)) {
            case 0:
                return least;
            case 1:
                return most;
            case 2:
                return below(2) == 0 ? least - 1 : most + 1;
            case 3:
                return below(2) == 0 ? least - 1 - below(1000) : most + 1 + below(1000);
            default:
                return least + below(most - least + 1);
        }
    }

    private static int many(int most) {
        switch (below(8)) {
            case 0:
                return within(-most, most);
            case 1:
                return Math.max(-most, Math.min(most, below(4001) - 2000));
            case 2:
                return Math.max(-most, Math.min(most, 12 * (below(101) - 50)));
            default:
                return Math.max(-most, Math.min(most, below(81) - 40));
        }
    }

    private static int year() {
        return below(3) == 0 ? within(-9999, 9999) : below(2) == 0 ? 1990 + below(40) : below(9) - 4;
    }

    private static int someDay() {
        return below(2) == 0 ? within(1, 31) : 28 + below(4);
    }

    private static int monthNumber() {
        return below(3) == 0 ? within(-119988, 119999) : 23900 + below(200);
    }

    private static int dayNumber() {
        switch (below(4)) {
            case 0:
                return within(-4371587, 2932896);
            case 1:
                return below(2) == 0 ? -4371587 + below(100) : 2932896 - below(100);
            default:
                return 11000 + below(10000);
        }
    }

    // ---- one call on both

    private static int compareOne(Calendaract x, Model y, int run, int step) {
        int kind = below(KINDS);
        int p = place();
        int q = place();
        int s = spanPlace();
        int t = spanPlace();
        boolean isOne = below(2) == 0;
        boolean isTwo = below(2) == 0;
        int[] a = argumentsOf(kind);
        Object want = answer(() -> ofModel(y, kind, p, q, s, t, isOne, isTwo, a));
        Object got = answer(() -> ofClass(x, kind, p, q, s, t, isOne, isTwo, a));
        if (!Objects.equals(want, got)) {
            tell(run, step, kind, p, q, s, t, a, got, want);
        }
        long digest = x.digest();
        if (digest != y.digest()) {
            tell(run, step, kind, p, q, s, t, a, "the digest " + digest, y.digest());
        }
        return kind;
    }

    private static void tell(int run, int step, int kind, int p, int q, int s, int t, int[] a,
            Object got, Object want) {
        wrong++;
        System.out.println("run " + run + ", step " + step + ", kind " + kind + ", places " + p + " "
                + q + ", spans " + s + " " + t + ", " + a[0] + " " + a[1] + " " + a[2]
                + ": answered " + got + ", due is " + want);
    }

    private static Object answer(Supplier<Object> call) {
        try {
            return call.get();
        } catch (RuntimeException e) {
            return e.getClass();
        }
    }

    private static int[] argumentsOf(int kind) {
        switch (kind) {
            case 0:
                return new int[] {year(), within(1, 12), someDay()};
            case 1:
                return new int[] {dayNumber(), 0, 0};
            case 2:
                return new int[] {monthNumber(), someDay(), 0};
            case 6:
                return new int[] {someDay(), 0, 0};
            case 8:
                return new int[] {many(20000), 0, 0};
            case 9:
                return new int[] {many(8000000), 0, 0};
            case 10:
                return new int[] {within(-60, 60), 0, 0};
            case 12:
                return new int[] {within(0, 24), 0, 0};
            case 13:
                return new int[] {many(20000), many(240000), many(100000)};
            case 17:
            case 46:
                return new int[] {within(0, 3), 0, 0};
            case 23:
            case 24:
                return new int[] {many(1201), within(0, 48), 0};
            case 25:
                return new int[] {many(1201), 0, 0};
            case 27:
                return new int[] {monthNumber(), within(0, 3), 0};
            case 28:
                return new int[] {monthNumber(), within(0, 48), 0};
            case 30:
                return new int[] {monthNumber(), within(1, 7), within(1, 5)};
            case 31:
                return new int[] {year(), someDay(), within(1, 7)};
            case 32:
                return new int[] {within(1, 7), within(0, 48), 0};
            default:
                return new int[] {many(240001), kind == 22 ? many(100001) : many(240001), 0};
        }
    }

    private static Object ofClass(Calendaract x, int kind, int p, int q, int s, int t,
            boolean isOne, boolean isTwo, int[] a) {
        switch (kind) {
            case 0: return x.of(p, a[0], a[1], a[2]);
            case 1: return x.ofDay(p, a[0]);
            case 2: return x.ofMonth(p, a[0], a[1]);
            case 3: return x.copy(p, q);
            case 4: return x.first(p);
            case 5: return x.last(p);
            case 6: return x.withDay(p, a[0]);
            case 7: return x.shift(p, a[0]);
            case 8: return x.shiftYears(p, a[0]);
            case 9: return x.days(p, a[0]);
            case 10: return x.cycles(p, a[0]);
            case 11: return x.act(p, s, isOne, isTwo);
            case 12: return x.actOften(p, s, a[0]);
            case 13: return x.span(s, a[0], a[1], a[2]);
            case 14: return x.until(s, p, q);
            case 15: return x.addSpan(s, t);
            case 16: return x.turnSpan(s);
            case 17: return x.ofSpan(s, a[0]);
            case 18: return x.isKept(p, a[0]);
            case 19: return x.loss(p, a[0]);
            case 20: return x.leadsBack(p, a[0]);
            case 21: return x.twice(p, a[0], a[1]);
            case 22: return x.gap(p, a[0], a[1]);
            case 23: return x.lowest(p, a[0], a[1]);
            case 24: return x.met(p, a[0], a[1]);
            case 25: return x.keeps(p, a[0]);
            case 26: return x.month(p);
            case 27: return x.ofMonthNumber(a[0], a[1]);
            case 28: return x.lengths(a[0], a[1]);
            case 29: return x.weekday(p);
            case 30: return x.nth(a[0], a[1], a[2]);
            case 31: return x.inYear(a[0], a[1], a[2]);
            case 32: return x.recurs(p, a[0], a[1]);
            case 33: return x.age(p, q);
            case 34: return x.anniversaries(p, q, isOne);
            case 35: return x.toNext(p, q, isOne);
            case 36: return x.wholeMonths(p, q);
            case 37: return x.year(p);
            case 38: return x.monthOfYear(p);
            case 39: return x.day(p);
            case 40: return x.dayOfYear(p);
            case 41: return x.number(p);
            case 42: return x.lengthOfMonth(p);
            case 43: return x.isLeapYear(p);
            case 44: return x.text(p);
            case 45: return x.compare(p, q);
            case 46: return x.house(a[0]);
            case 47: return x.knock();
            case 48: return x.isSound();
            default: return x.between(p, q);
        }
    }

    private static Object ofModel(Model y, int kind, int p, int q, int s, int t,
            boolean isOne, boolean isTwo, int[] a) {
        switch (kind) {
            case 0: return y.of(p, a[0], a[1], a[2]);
            case 1: return y.ofDay(p, a[0]);
            case 2: return y.ofMonth(p, a[0], a[1]);
            case 3: return y.copy(p, q);
            case 4: return y.first(p);
            case 5: return y.last(p);
            case 6: return y.withDay(p, a[0]);
            case 7: return y.shift(p, a[0], 240000, 1);
            case 8: return y.shift(p, a[0], 20000, 12);
            case 9: return y.days(p, a[0]);
            case 10: return y.cycles(p, a[0]);
            case 11: return y.act(p, s, isOne, isTwo);
            case 12: return y.actOften(p, s, a[0]);
            case 13: return y.span(s, a[0], a[1], a[2]);
            case 14: return y.until(s, p, q);
            case 15: return y.addSpan(s, t);
            case 16: return y.turnSpan(s);
            case 17: return y.ofSpan(s, a[0]);
            case 18: return y.loss(p, a[0]) == 0;
            case 19: return y.loss(p, a[0]);
            case 20: return y.leadsBack(p, a[0]);
            case 21: return y.twice(p, a[0], a[1]);
            case 22: return y.gap(p, a[0], a[1]);
            case 23: return y.way(p, a[0], a[1])[a[1]];
            case 24: return y.met(p, a[0], a[1]);
            case 25: return y.keeps(p, a[0]);
            case 26: return y.month(p);
            case 27: return y.ofMonthNumber(a[0], a[1]);
            case 28: return y.lengths(a[0], a[1]);
            case 29: return y.at(p).getDayOfWeek().getValue();
            case 30: return y.nth(a[0], a[1], a[2]);
            case 31: return y.inYear(a[0], a[1], a[2]);
            case 32: return y.recurs(p, a[0], a[1]);
            case 33: return y.age(p, q);
            case 34: return y.anniversaries(p, q, isOne, false);
            case 35: return y.anniversaries(p, q, isOne, true);
            case 36: return y.wholeMonths(p, q);
            case 37: return y.at(p).getYear();
            case 38: return y.at(p).getMonthValue();
            case 39: return y.at(p).getDayOfMonth();
            case 40: return y.at(p).getDayOfYear();
            case 41: return (int) y.at(p).toEpochDay();
            case 42: return y.at(p).lengthOfMonth();
            case 43: return y.at(p).isLeapYear();
            case 44: return y.text(p);
            case 45: return Integer.signum(y.at(p).compareTo(y.at(q)));
            case 46: return y.house(a[0]);
            case 47: return ++y.knocks;
            case 48: return true;
            default: return -(int) (y.at(p).toEpochDay() - y.at(q).toEpochDay());
        }
    }

    /** What the document says, told with java.time and by counting. */
    private static final class Model {
        private final LocalDate[] dates = new LocalDate[6];
        private final int[][] spans = new int[3][3];
        private int told = 0;
        private int refused = 0;
        private int knocks = 0;

        Model() {
            java.util.Arrays.fill(dates, LocalDate.EPOCH);
        }

        static void argument(boolean isFine) {
            if (!isFine) {
                throw new IllegalArgumentException();
            }
        }

        static void argument(int value, int least, int most) {
            argument(value >= least && value <= most);
        }

        static void state(boolean isFine) {
            if (!isFine) {
                throw new IllegalStateException();
            }
        }

        LocalDate at(int place) {
            if (place < 0 || place > 5) {
                throw new IndexOutOfBoundsException();
            }
            return dates[place];
        }

        int[] spanAt(int span) {
            if (span < 0 || span > 2) {
                throw new IndexOutOfBoundsException();
            }
            return spans[span];
        }

        int put(int place, LocalDate date) {
            state(Math.abs(date.getYear()) <= 9999);
            dates[place] = date;
            told++;
            return (int) date.toEpochDay();
        }

        int inAll(int span) {
            return 12 * spans[span][0] + spans[span][1];
        }

        int of(int place, int year, int month, int day) {
            at(place);
            argument(Math.abs((long) year) <= 9999);
            argument(month, 1, 12);
            argument(day, 1, 31);
            state(day <= LocalDate.of(year, month, 1).lengthOfMonth());
            return put(place, LocalDate.of(year, month, day));
        }

        int ofDay(int place, int number) {
            at(place);
            argument(number, -4371587, 2932896);
            put(place, LocalDate.ofEpochDay(number));
            return dates[place].getDayOfWeek().getValue();
        }

        static LocalDate start(int number) {
            argument(number, -119988, 119999);
            return LocalDate.of(0, 1, 1).plusMonths(number);
        }

        int ofMonth(int place, int number, int day) {
            at(place);
            LocalDate start = start(number);
            argument(day, 1, 31);
            put(place, start.withDayOfMonth(Math.min(day, start.lengthOfMonth())));
            return dates[place].getDayOfMonth();
        }

        int copy(int place, int other) {
            at(place);
            return put(place, at(other));
        }

        int first(int place) {
            int back = at(place).getDayOfMonth() - 1;
            put(place, at(place).minusDays(back));
            return back;
        }

        int last(int place) {
            int on = at(place).lengthOfMonth() - at(place).getDayOfMonth();
            put(place, at(place).plusDays(on));
            return on;
        }

        int withDay(int place, int day) {
            LocalDate date = at(place);
            argument(day, 1, 31);
            state(day <= date.lengthOfMonth());
            return put(place, date.withDayOfMonth(day));
        }

        int shift(int place, int many, int most, int months) {
            LocalDate date = at(place);
            argument(many, -most, most);
            put(place, date.plusMonths((long) many * months));
            return dates[place].getDayOfMonth();
        }

        int days(int place, int many) {
            LocalDate date = at(place);
            argument(many, -8000000, 8000000);
            return put(place, date.plusDays(many));
        }

        int cycles(int place, int many) {
            LocalDate date = at(place);
            argument(many, -60, 60);
            return put(place, date.plusYears(400L * many));
        }

        int act(int place, int span, boolean isDaysFirst, boolean isBack) {
            LocalDate date = at(place);
            int[] by = spanAt(span);
            int sign = isBack ? -1 : 1;
            int months = sign * inAll(span);
            int days = sign * by[2];
            return put(place, isDaysFirst ? date.plusDays(days).plusMonths(months)
                    : date.plusMonths(months).plusDays(days));
        }

        int actOften(int place, int span, int times) {
            LocalDate date = at(place);
            int[] by = spanAt(span);
            argument(times, 0, 24);
            for (int done = 0; done < times; done++) {
                date = date.plusMonths(inAll(span)).plusDays(by[2]);
            }
            return put(place, date);
        }

        int span(int span, int years, int months, int days) {
            int[] is = spanAt(span);
            argument(years, -20000, 20000);
            argument(months, -240000, 240000);
            argument(days, -100000, 100000);
            is[0] = years;
            is[1] = months;
            is[2] = days;
            told++;
            return inAll(span);
        }

        /** The greatest number of months whose shift is not behind, found step by step. */
        static int months(LocalDate from, LocalDate to) {
            long days = to.toEpochDay() - from.toEpochDay();
            int months = (int) Math.max(0, days * 4800 / 146097 - 3);
            while (isReached(from, to, months + 1)) {
                months++;
            }
            return months;
        }

        private static boolean isReached(LocalDate from, LocalDate to, int months) {
            LocalDate there = from.withDayOfMonth(1).plusMonths(months);
            LocalDate start = to.withDayOfMonth(1);
            return there.isBefore(start)
                    || there.equals(start) && from.getDayOfMonth() <= to.getDayOfMonth();
        }

        int until(int span, int from, int to) {
            int[] is = spanAt(span);
            LocalDate a = at(from);
            LocalDate b = at(to);
            state(!b.isBefore(a));
            int months = months(a, b);
            is[0] = months / 12;
            is[1] = months % 12;
            is[2] = (int) (b.toEpochDay() - a.plusMonths(months).toEpochDay());
            told++;
            return is[2];
        }

        int addSpan(int span, int other) {
            int[] is = spanAt(span);
            int[] more = spanAt(other);
            int[] sum = {is[0] + more[0], is[1] + more[1], is[2] + more[2]};
            state(Math.abs(sum[0]) <= 20000 && Math.abs(sum[1]) <= 240000
                    && Math.abs(sum[2]) <= 100000);
            spans[span] = sum;
            told++;
            return sum[2];
        }

        int turnSpan(int span) {
            int[] is = spanAt(span);
            spans[span] = new int[] {-is[0], -is[1], -is[2]};
            told++;
            return inAll(span);
        }

        int ofSpan(int span, int what) {
            int[] is = spanAt(span);
            argument(what, 0, 3);
            return what == 3 ? inAll(span) : is[what];
        }

        int loss(int place, int months) {
            LocalDate date = at(place);
            argument(months, -240000, 240000);
            return date.getDayOfMonth() - date.plusMonths(months).getDayOfMonth();
        }

        boolean leadsBack(int place, int months) {
            LocalDate date = at(place);
            argument(months, -240000, 240000);
            return date.plusMonths(months).minusMonths(months).equals(date);
        }

        int twice(int place, int months, int more) {
            LocalDate date = at(place);
            argument(months, -240000, 240000);
            argument(more, -240000, 240000);
            return (int) (date.plusMonths(months + more).toEpochDay()
                    - date.plusMonths(months).plusMonths(more).toEpochDay());
        }

        int gap(int place, int months, int days) {
            LocalDate date = at(place);
            argument(months, -240000, 240000);
            argument(days, -100000, 100000);
            return (int) (date.plusDays(days).plusMonths(months).toEpochDay()
                    - date.plusMonths(months).plusDays(days).toEpochDay());
        }

        /** The days on the way, its own one first. */
        int[] way(int place, int months, int times) {
            LocalDate date = at(place);
            argument(months, -1200, 1200);
            argument(times, 0, 48);
            int[] days = new int[times + 1];
            for (int done = 0; done <= times; done++) {
                days[done] = date.getDayOfMonth();
                date = date.plusMonths(months);
            }
            return days;
        }

        String met(int place, int months, int times) {
            TreeSet<Integer> seen = new TreeSet<>();
            StringBuilder text = new StringBuilder();
            for (int day : way(place, months, times)) {
                if (seen.add(day)) {
                    text.append(text.length() == 0 ? "" : " ").append(day);
                }
            }
            return text.toString();
        }

        int keeps(int place, int months) {
            int[] days = way(place, months, 48);
            for (int shifts = 1; shifts <= 48; shifts++) {
                if (days[shifts] < days[0]) {
                    return shifts;
                }
            }
            return -1;
        }

        int month(int place) {
            return 12 * at(place).getYear() + at(place).getMonthValue() - 1;
        }

        int ofMonthNumber(int number, int what) {
            LocalDate start = start(number);
            argument(what, 0, 3);
            int[] told = {start.getYear(), start.getMonthValue(), start.lengthOfMonth(),
                (int) start.toEpochDay()};
            return told[what];
        }

        int lengths(int number, int many) {
            LocalDate start = start(number);
            argument(many, 0, 48);
            int sum = 0;
            for (int month = 0; month < many; month++) {
                sum += start.plusMonths(month).lengthOfMonth();
            }
            return sum;
        }

        int nth(int number, int weekday, int which) {
            LocalDate start = start(number);
            argument(weekday, 1, 7);
            argument(which, 1, 5);
            int seen = 0;
            for (int day = 1; day <= start.lengthOfMonth(); day++) {
                if (start.withDayOfMonth(day).getDayOfWeek().getValue() == weekday) {
                    seen++;
                    if (seen == which) {
                        return day;
                    }
                }
            }
            return -1;
        }

        int inYear(int year, int day, int weekday) {
            argument(year, -9999, 9999);
            argument(day, 1, 31);
            argument(weekday, 1, 7);
            int found = 0;
            LocalDate date = LocalDate.of(year, 1, 1);
            for (; date.getYear() == year; date = date.plusDays(1)) {
                if (date.getDayOfMonth() == day && date.getDayOfWeek().getValue() == weekday) {
                    found++;
                }
            }
            return found;
        }

        int recurs(int place, int weekday, int years) {
            LocalDate date = at(place);
            argument(weekday, 1, 7);
            argument(years, 0, 48);
            int found = 0;
            for (int later = 1; later <= years; later++) {
                if (date.plusYears(later).getDayOfWeek().getValue() == weekday) {
                    found++;
                }
            }
            return found;
        }

        int age(int place, int other) {
            LocalDate date = at(place);
            state(!at(other).isBefore(date));
            return months(date, at(other)) / 12;
        }

        int anniversaries(int place, int other, boolean isLate, boolean isNext) {
            LocalDate date = at(place);
            LocalDate to = at(other);
            long behind = to.toEpochDay() - date.toEpochDay();
            if (behind < 0 || behind > 40000) {
                refused++;
                return -9;
            }
            int which = 0;
            LocalDate next;
            do {
                which++;
                next = date.plusYears(which);
                if (isLate && next.getDayOfMonth() != date.getDayOfMonth()) {
                    next = LocalDate.of(next.getYear(), 3, 1);
                }
            } while (!next.isAfter(to));
            return isNext ? (int) (next.toEpochDay() - to.toEpochDay()) : which - 1;
        }

        int wholeMonths(int place, int other) {
            LocalDate a = at(place);
            LocalDate b = at(other);
            return b.isBefore(a) ? -months(b, a) : months(a, b);
        }

        String text(int place) {
            LocalDate date = at(place);
            return (date.getYear() < 0 ? "-" : "") + String.format("%04d-%02d-%02d",
                    Math.abs(date.getYear()), date.getMonthValue(), date.getDayOfMonth());
        }

        int house(int what) {
            argument(what, 0, 3);
            int unlike = new TreeSet<>(java.util.List.of(dates[0].toEpochDay(), dates[1].toEpochDay(),
                    dates[2].toEpochDay(), dates[3].toEpochDay(), dates[4].toEpochDay(),
                    dates[5].toEpochDay())).size();
            return new int[] {told, unlike, refused, knocks}[what];
        }

        long digest() {
            long d = 7843;
            for (int what = 0; what < 4; what++) {
                d = d * 31 + house(what);
            }
            for (int place = 0; place < 6; place++) {
                LocalDate date = dates[place];
                int next = (place + 1) % 6;
                long[] values = {date.toEpochDay(), month(place), date.getDayOfMonth(),
                    date.getDayOfWeek().getValue(), date.getDayOfYear(), date.lengthOfMonth(),
                    date.isLeapYear() ? 1 : 0, date.getYear() < 0 ? 11 : 10, loss(place, 1),
                    loss(place, -1), gap(place, 1, 30),
                    Integer.signum(date.compareTo(dates[next])), wholeMonths(place, next)};
                for (long value : values) {
                    d = d * 31 + value;
                }
            }
            for (int span = 0; span < 3; span++) {
                for (int what = 0; what < 4; what++) {
                    d = d * 31 + ofSpan(span, what);
                }
            }
            return d * 31 + 1;
        }
    }
}
