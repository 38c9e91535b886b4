/**
 * Months that act on days: six places with a date each, three spans of years, months and days,
 * and what shifts by months do to dates. ../shared/DOC.md says what each method promises.
 */
public final class Calendaract {
    private static final int NONE = -1;
    private static final int REFUSED = -9;

    private static final int PLACES = 6;
    private static final int SPANS = 3;

    private static final int FIRST_YEAR = -9999;
    private static final int LAST_YEAR = 9999;
    private static final int FIRST_MONTH = -119988;
    private static final int LAST_MONTH = 119999;
    private static final int FIRST_DATE = -4371587;
    private static final int LAST_DATE = 2932896;

    private static final int LONGEST_MONTH = 31;
    private static final int WEEK = 7;
    private static final int WEEKS_OF_MONTH = 5;

    private static final int MOST_YEARS = 20000;
    private static final int MOST_MONTHS = 240000;
    private static final int MOST_SPAN_DAYS = 100000;
    private static final int MOST_DAYS = 8000000;
    private static final int MOST_CYCLES = 60;
    private static final int MOST_ACTS = 24;
    private static final int MOST_STEP = 1200;
    private static final int MOST_TIMES = 48;
    private static final int MOST_DAYS_BEHIND = 40000;

    private static final int CYCLE_MONTHS = 4800;
    private static final int CYCLE_DAYS = 146097;
    private static final int SOUND_MONTHS = 13;

    /** The DAY NUMBER of each PLACE: the whole DATE follows from it, so nothing else is held. */
    private final int[] dates;
    private final int[] spanYears;
    private final int[] spanMonths;
    private final int[] spanDays;
    /** Used again for every text, so that a text costs no builder of its own. */
    private final StringBuilder writing;
    private int becomings;
    private int refusals;
    private int knocks;

    public Calendaract() {
        dates = new int[PLACES];
        spanYears = new int[SPANS];
        spanMonths = new int[SPANS];
        spanDays = new int[SPANS];
        writing = new StringBuilder();
        becomings = 0;
        refusals = 0;
        knocks = 0;
    }

    // ---- dates

    public int of(int place, int year, int month, int day)
            throws IndexOutOfBoundsException, IllegalArgumentException, IllegalStateException {
        needPlace(place);
        needWithin(year, FIRST_YEAR, LAST_YEAR);
        needWithin(month, 1, Reckoning.YEAR_MONTHS);
        needWithin(day, 1, LONGEST_MONTH);
        int inAll = Reckoning.YEAR_MONTHS * year + month - 1;
        needDayOfMonth(inAll, day);
        return put(place, Reckoning.dateIn(inAll, day));
    }

    public int ofDay(int place, int number)
            throws IndexOutOfBoundsException, IllegalArgumentException {
        needPlace(place);
        needWithin(number, FIRST_DATE, LAST_DATE);
        return Reckoning.weekdayOf(put(place, number));
    }

    public int ofMonth(int place, int number, int day)
            throws IndexOutOfBoundsException, IllegalArgumentException {
        needPlace(place);
        needMonth(number);
        needWithin(day, 1, LONGEST_MONTH);
        return Reckoning.dayOf(put(place, Reckoning.dateIn(number, day)));
    }

    public int copy(int place, int other) throws IndexOutOfBoundsException {
        needPlace(place);
        needPlace(other);
        return put(place, dates[other]);
    }

    public int first(int place) throws IndexOutOfBoundsException {
        needPlace(place);
        int was = dates[place];
        return was - put(place, Reckoning.firstOf(Reckoning.monthOf(was)));
    }

    public int last(int place) throws IndexOutOfBoundsException {
        needPlace(place);
        int was = dates[place];
        return put(place, Reckoning.firstOf(Reckoning.monthOf(was) + 1) - 1) - was;
    }

    public int withDay(int place, int day)
            throws IndexOutOfBoundsException, IllegalArgumentException, IllegalStateException {
        needPlace(place);
        needWithin(day, 1, LONGEST_MONTH);
        int month = Reckoning.monthOf(dates[place]);
        needDayOfMonth(month, day);
        return put(place, Reckoning.dateIn(month, day));
    }

    // ---- going on

    public int shift(int place, int months)
            throws IndexOutOfBoundsException, IllegalArgumentException, IllegalStateException {
        needPlace(place);
        needMonths(months);
        int date = Reckoning.shifted(dates[place], months);
        needDate(date);
        return Reckoning.dayOf(put(place, date));
    }

    public int shiftYears(int place, int years)
            throws IndexOutOfBoundsException, IllegalArgumentException, IllegalStateException {
        needPlace(place);
        needWithin(years, -MOST_YEARS, MOST_YEARS);
        int date = Reckoning.shifted(dates[place], Reckoning.YEAR_MONTHS * years);
        needDate(date);
        return Reckoning.dayOf(put(place, date));
    }

    public int days(int place, int many)
            throws IndexOutOfBoundsException, IllegalArgumentException, IllegalStateException {
        needPlace(place);
        needWithin(many, -MOST_DAYS, MOST_DAYS);
        int date = dates[place] + many;
        needDate(date);
        return put(place, date);
    }

    public int cycles(int place, int many)
            throws IndexOutOfBoundsException, IllegalArgumentException, IllegalStateException {
        needPlace(place);
        needWithin(many, -MOST_CYCLES, MOST_CYCLES);
        int date = Reckoning.shifted(dates[place], CYCLE_MONTHS * many);
        needDate(date);
        return put(place, date);
    }

    public int act(int place, int span, boolean isDaysFirst, boolean isBack)
            throws IndexOutOfBoundsException, IllegalStateException {
        needPlace(place);
        needSpan(span);
        int sign = isBack ? -1 : 1;
        int months = sign * monthsInAll(span);
        int many = sign * spanDays[span];
        int date = isDaysFirst
                ? Reckoning.daysFirst(dates[place], months, many)
                : Reckoning.monthsFirst(dates[place], months, many);
        needDate(date);
        return put(place, date);
    }

    public int actOften(int place, int span, int times)
            throws IndexOutOfBoundsException, IllegalArgumentException, IllegalStateException {
        needPlace(place);
        needSpan(span);
        needWithin(times, 0, MOST_ACTS);
        int months = monthsInAll(span);
        int date = dates[place];
        for (int done = 0; done < times; done++) {
            date = Reckoning.monthsFirst(date, months, spanDays[span]);
        }
        needDate(date);
        return put(place, date);
    }

    // ---- spans

    public int span(int span, int years, int months, int days)
            throws IndexOutOfBoundsException, IllegalArgumentException {
        needSpan(span);
        needWithin(years, -MOST_YEARS, MOST_YEARS);
        needMonths(months);
        needWithin(days, -MOST_SPAN_DAYS, MOST_SPAN_DAYS);
        putSpan(span, years, months, days);
        return monthsInAll(span);
    }

    public int until(int span, int from, int to)
            throws IndexOutOfBoundsException, IllegalStateException {
        needSpan(span);
        needPlace(from);
        needPlace(to);
        needNotAhead(dates[to], dates[from]);
        int months = Reckoning.monthsUntil(dates[from], dates[to]);
        putSpan(span, months / Reckoning.YEAR_MONTHS, months % Reckoning.YEAR_MONTHS,
                dates[to] - Reckoning.shifted(dates[from], months));
        return spanDays[span];
    }

    public int addSpan(int span, int other)
            throws IndexOutOfBoundsException, IllegalStateException {
        needSpan(span);
        needSpan(other);
        int years = spanYears[span] + spanYears[other];
        int months = spanMonths[span] + spanMonths[other];
        int many = spanDays[span] + spanDays[other];
        needOfSpan(years, MOST_YEARS);
        needOfSpan(months, MOST_MONTHS);
        needOfSpan(many, MOST_SPAN_DAYS);
        putSpan(span, years, months, many);
        return many;
    }

    public int turnSpan(int span) throws IndexOutOfBoundsException {
        needSpan(span);
        putSpan(span, -spanYears[span], -spanMonths[span], -spanDays[span]);
        return monthsInAll(span);
    }

    public int ofSpan(int span, int what)
            throws IndexOutOfBoundsException, IllegalArgumentException {
        needSpan(span);
        needWithin(what, 0, 3);
        switch (what) {
            case 0:
                return spanYears[span];
            case 1:
                return spanMonths[span];
            case 2:
                return spanDays[span];
            default:
                return monthsInAll(span);
        }
    }

    // ---- what shifts do

    public boolean isKept(int place, int months)
            throws IndexOutOfBoundsException, IllegalArgumentException {
        needPlace(place);
        needMonths(months);
        return Reckoning.lossOf(dates[place], months) == 0;
    }

    public int loss(int place, int months)
            throws IndexOutOfBoundsException, IllegalArgumentException {
        needPlace(place);
        needMonths(months);
        return Reckoning.lossOf(dates[place], months);
    }

    public boolean leadsBack(int place, int months)
            throws IndexOutOfBoundsException, IllegalArgumentException {
        needPlace(place);
        needMonths(months);
        return Reckoning.comesBack(dates[place], months);
    }

    public int twice(int place, int months, int more)
            throws IndexOutOfBoundsException, IllegalArgumentException {
        needPlace(place);
        needMonths(months);
        needMonths(more);
        int date = dates[place];
        int atOnce = Reckoning.shifted(date, months + more);
        return atOnce - Reckoning.shifted(Reckoning.shifted(date, months), more);
    }

    public int gap(int place, int months, int days)
            throws IndexOutOfBoundsException, IllegalArgumentException {
        needPlace(place);
        needMonths(months);
        needWithin(days, -MOST_SPAN_DAYS, MOST_SPAN_DAYS);
        int date = dates[place];
        return Reckoning.daysFirst(date, months, days) - Reckoning.monthsFirst(date, months, days);
    }

    public int lowest(int place, int months, int times)
            throws IndexOutOfBoundsException, IllegalArgumentException {
        needPlace(place);
        needWithin(months, -MOST_STEP, MOST_STEP);
        needWithin(times, 0, MOST_TIMES);
        int date = dates[place];
        for (int done = 0; done < times; done++) {
            date = Reckoning.shifted(date, months);
        }
        return Reckoning.dayOf(date);
    }

    public String met(int place, int months, int times)
            throws IndexOutOfBoundsException, IllegalArgumentException {
        needPlace(place);
        needWithin(months, -MOST_STEP, MOST_STEP);
        needWithin(times, 0, MOST_TIMES);
        int date = dates[place];
        int lowest = Reckoning.dayOf(date);
        writing.setLength(0);
        writing.append(lowest);
        for (int done = 0; done < times; done++) {
            date = Reckoning.shifted(date, months);
            int day = Reckoning.dayOf(date);
            // No shift raises a day, so a day that is not the last one met is a new one.
            if (day != lowest) {
                writing.append(' ').append(day);
                lowest = day;
            }
        }
        return writing.toString();
    }

    public int keeps(int place, int months)
            throws IndexOutOfBoundsException, IllegalArgumentException {
        needPlace(place);
        needWithin(months, -MOST_STEP, MOST_STEP);
        int date = dates[place];
        for (int shifts = 1; shifts <= MOST_TIMES; shifts++) {
            if (Reckoning.lossOf(date, months) > 0) {
                return shifts;
            }
            date = Reckoning.shifted(date, months);
        }
        return NONE;
    }

    // ---- months

    public int month(int place) throws IndexOutOfBoundsException {
        needPlace(place);
        return Reckoning.monthOf(dates[place]);
    }

    public int ofMonthNumber(int number, int what) throws IllegalArgumentException {
        needMonth(number);
        needWithin(what, 0, 3);
        switch (what) {
            case 0:
                return Reckoning.yearOfMonth(number);
            case 1:
                return Reckoning.monthInYear(number);
            case 2:
                return Reckoning.lengthOf(number);
            default:
                return Reckoning.firstOf(number);
        }
    }

    public int lengths(int number, int many) throws IllegalArgumentException {
        needMonth(number);
        needWithin(many, 0, MOST_TIMES);
        return Reckoning.firstOf(number + many) - Reckoning.firstOf(number);
    }

    // ---- weekdays

    public int weekday(int place) throws IndexOutOfBoundsException {
        needPlace(place);
        return Reckoning.weekdayOf(dates[place]);
    }

    public int nth(int number, int weekday, int which) throws IllegalArgumentException {
        needMonth(number);
        needWithin(weekday, 1, WEEK);
        needWithin(which, 1, WEEKS_OF_MONTH);
        int ahead = Math.floorMod(weekday - Reckoning.weekdayOf(Reckoning.firstOf(number)), WEEK);
        int day = 1 + ahead + WEEK * (which - 1);
        return day <= Reckoning.lengthOf(number) ? day : NONE;
    }

    public int inYear(int year, int day, int weekday) throws IllegalArgumentException {
        needWithin(year, FIRST_YEAR, LAST_YEAR);
        needWithin(day, 1, LONGEST_MONTH);
        needWithin(weekday, 1, WEEK);
        int start = Reckoning.YEAR_MONTHS * year;
        int found = 0;
        for (int month = start; month < start + Reckoning.YEAR_MONTHS; month++) {
            if (day <= Reckoning.lengthOf(month)
                    && Reckoning.weekdayOf(Reckoning.dateIn(month, day)) == weekday) {
                found++;
            }
        }
        return found;
    }

    public int recurs(int place, int weekday, int years)
            throws IndexOutOfBoundsException, IllegalArgumentException {
        needPlace(place);
        needWithin(weekday, 1, WEEK);
        needWithin(years, 0, MOST_TIMES);
        int found = 0;
        for (int later = 1; later <= years; later++) {
            int date = Reckoning.shifted(dates[place], Reckoning.YEAR_MONTHS * later);
            if (Reckoning.weekdayOf(date) == weekday) {
                found++;
            }
        }
        return found;
    }

    // ---- anniversaries

    public int age(int place, int other) throws IndexOutOfBoundsException, IllegalStateException {
        needPlace(place);
        needPlace(other);
        needNotAhead(dates[other], dates[place]);
        return Reckoning.monthsUntil(dates[place], dates[other]) / Reckoning.YEAR_MONTHS;
    }

    public int anniversaries(int place, int other, boolean isLate)
            throws IndexOutOfBoundsException {
        needPlace(place);
        needPlace(other);
        if (isRefused(dates[place], dates[other])) {
            return refuse();
        }
        return Reckoning.anniversariesUntil(dates[place], dates[other], isLate);
    }

    public int toNext(int place, int other, boolean isLate) throws IndexOutOfBoundsException {
        needPlace(place);
        needPlace(other);
        if (isRefused(dates[place], dates[other])) {
            return refuse();
        }
        int next = Reckoning.anniversariesUntil(dates[place], dates[other], isLate) + 1;
        return Reckoning.anniversary(dates[place], next, isLate) - dates[other];
    }

    public int wholeMonths(int place, int other) throws IndexOutOfBoundsException {
        needPlace(place);
        needPlace(other);
        if (dates[other] < dates[place]) {
            return -Reckoning.monthsUntil(dates[other], dates[place]);
        }
        return Reckoning.monthsUntil(dates[place], dates[other]);
    }

    // ---- what is asked

    public int year(int place) throws IndexOutOfBoundsException {
        needPlace(place);
        return Reckoning.yearOf(dates[place]);
    }

    public int monthOfYear(int place) throws IndexOutOfBoundsException {
        needPlace(place);
        return Reckoning.monthInYear(Reckoning.monthOf(dates[place]));
    }

    public int day(int place) throws IndexOutOfBoundsException {
        needPlace(place);
        return Reckoning.dayOf(dates[place]);
    }

    public int dayOfYear(int place) throws IndexOutOfBoundsException {
        needPlace(place);
        int start = Reckoning.YEAR_MONTHS * Reckoning.yearOf(dates[place]);
        return dates[place] - Reckoning.firstOf(start) + 1;
    }

    public int number(int place) throws IndexOutOfBoundsException {
        needPlace(place);
        return dates[place];
    }

    public int lengthOfMonth(int place) throws IndexOutOfBoundsException {
        needPlace(place);
        return Reckoning.lengthOf(Reckoning.monthOf(dates[place]));
    }

    public boolean isLeapYear(int place) throws IndexOutOfBoundsException {
        needPlace(place);
        return Reckoning.isLeap(Reckoning.yearOf(dates[place]));
    }

    public String text(int place) throws IndexOutOfBoundsException {
        needPlace(place);
        int month = Reckoning.monthOf(dates[place]);
        int year = Reckoning.yearOfMonth(month);
        writing.setLength(0);
        if (year < 0) {
            writing.append('-');
        }
        int digits = Math.abs(year);
        writeTwoDigits(digits / 100);
        writeTwoDigits(digits % 100);
        writing.append('-');
        writeTwoDigits(Reckoning.monthInYear(month));
        writing.append('-');
        writeTwoDigits(Reckoning.dayOf(dates[place]));
        return writing.toString();
    }

    public int compare(int place, int other) throws IndexOutOfBoundsException {
        needPlace(place);
        needPlace(other);
        if (dates[place] == dates[other]) {
            return 0;
        }
        return dates[place] < dates[other] ? -1 : 1;
    }

    public int between(int place, int other) throws IndexOutOfBoundsException {
        needPlace(place);
        needPlace(other);
        return dates[other] - dates[place];
    }

    // ---- the whole

    public int house(int what) throws IllegalArgumentException {
        needWithin(what, 0, 3);
        switch (what) {
            case 0:
                return becomings;
            case 1:
                return unlikeDates();
            case 2:
                return refusals;
            default:
                return knocks;
        }
    }

    public int knock() {
        knocks++;
        return knocks;
    }

    public boolean isSound() {
        for (int place = 0; place < PLACES; place++) {
            int date = dates[place];
            if (!Reckoning.isToldAnew(date) || !Reckoning.isSoundByCycles(date)
                    || !Reckoning.isSoundByMonths(date)) {
                return false;
            }
            for (int other = 0; other < PLACES; other++) {
                if (date <= dates[other] && !Reckoning.isSoundPair(date, dates[other])) {
                    return false;
                }
            }
        }
        return true;
    }

    public long digest() {
        long sum = 7843;
        for (int what = 0; what <= 3; what++) {
            sum = sum * 31 + house(what);
        }
        for (int place = 0; place < PLACES; place++) {
            sum = withShifts(withDate(sum, place), place);
        }
        for (int span = 0; span < SPANS; span++) {
            for (int what = 0; what <= 3; what++) {
                sum = sum * 31 + ofSpan(span, what);
            }
        }
        return sum * 31 + (isSound() ? 1 : 0);
    }

    // ---- what the methods share

    private long withDate(long sum, int place) {
        long more = sum * 31 + number(place);
        more = more * 31 + month(place);
        more = more * 31 + day(place);
        more = more * 31 + weekday(place);
        more = more * 31 + dayOfYear(place);
        more = more * 31 + lengthOfMonth(place);
        more = more * 31 + (isLeapYear(place) ? 1 : 0);
        return more * 31 + text(place).length();
    }

    private long withShifts(long sum, int place) {
        int next = place + 1 < PLACES ? place + 1 : 0;
        long more = sum * 31 + loss(place, 1);
        more = more * 31 + loss(place, -1);
        more = more * 31 + gap(place, 1, 30);
        more = more * 31 + compare(place, next);
        return more * 31 + wholeMonths(place, next);
    }

    private int put(int place, int date) {
        dates[place] = date;
        becomings++;
        return date;
    }

    private void putSpan(int span, int years, int months, int many) {
        spanYears[span] = years;
        spanMonths[span] = months;
        spanDays[span] = many;
        becomings++;
    }

    private int monthsInAll(int span) {
        return Reckoning.YEAR_MONTHS * spanYears[span] + spanMonths[span];
    }

    private int refuse() {
        refusals++;
        return REFUSED;
    }

    private static boolean isRefused(int date, int other) {
        return other < date || other - date > MOST_DAYS_BEHIND;
    }

    private int unlikeDates() {
        int unlike = 0;
        for (int place = 0; place < PLACES; place++) {
            if (!isMetBefore(place)) {
                unlike++;
            }
        }
        return unlike;
    }

    private boolean isMetBefore(int place) {
        for (int other = 0; other < place; other++) {
            if (dates[other] == dates[place]) {
                return true;
            }
        }
        return false;
    }

    private void writeTwoDigits(int value) {
        if (value < 10) {
            writing.append('0');
        }
        writing.append(value);
    }

    // ---- what a method asks of its arguments

    private static void needPlace(int place) {
        if (place < 0 || place >= PLACES) {
            throw new IndexOutOfBoundsException("no such PLACE");
        }
    }

    private static void needSpan(int span) {
        if (span < 0 || span >= SPANS) {
            throw new IndexOutOfBoundsException("no such SPAN");
        }
    }

    private static void needWithin(int value, int least, int most) {
        if (value < least || value > most) {
            throw new IllegalArgumentException("an argument is out of its range");
        }
    }

    private static void needMonth(int number) {
        needWithin(number, FIRST_MONTH, LAST_MONTH);
    }

    private static void needMonths(int months) {
        needWithin(months, -MOST_MONTHS, MOST_MONTHS);
    }

    private static void needDayOfMonth(int month, int day) {
        if (day > Reckoning.lengthOf(month)) {
            throw new IllegalStateException("the month has not so many days");
        }
    }

    private static void needDate(int date) {
        if (date < FIRST_DATE || date > LAST_DATE) {
            throw new IllegalStateException("it would be no DATE");
        }
    }

    private static void needNotAhead(int date, int other) {
        if (date < other) {
            throw new IllegalStateException("the other DATE is ahead of the first one");
        }
    }

    private static void needOfSpan(int value, int most) {
        if (value < -most || value > most) {
            throw new IllegalStateException("a number of the SPAN would be out of its range");
        }
    }

    /** The calendar itself, without a state: a date is its DAY NUMBER, a month its MONTH NUMBER. */
    private static final class Reckoning {
        static final int YEAR_MONTHS = 12;

        private static final int YEAR_DAYS = 365;
        /** The DAYS from the first day of the YEAR 0 on to that of the YEAR 1970. */
        private static final int DAYS_TO_1970 = 719528;
        /** How many of them are ahead of the MONTH 3 of the YEAR 0, which is a LEAP YEAR. */
        private static final int DAYS_TO_MARCH = 60;

        static boolean isLeap(int year) {
            return year % 4 == 0 && (year % 100 != 0 || year % 400 == 0);
        }

        static int yearOfMonth(int month) {
            return Math.floorDiv(month, YEAR_MONTHS);
        }

        static int monthInYear(int month) {
            return Math.floorMod(month, YEAR_MONTHS) + 1;
        }

        static int firstOf(int month) {
            // Reckoned by years that begin with the MONTH 3: a leap day is the last one of such a
            // year, so that all months ahead of it lie alike in each.
            int fromMarch = month - 2;
            int year = Math.floorDiv(fromMarch, YEAR_MONTHS);
            int months = Math.floorMod(fromMarch, YEAR_MONTHS);
            int leapDays = Math.floorDiv(year, 4) - Math.floorDiv(year, 100)
                    + Math.floorDiv(year, 400);
            // From there on 31, 30, 31, 30 and 31 days come again and again: 153 in five months.
            int daysAhead = (153 * months + 2) / 5;
            return YEAR_DAYS * year + leapDays + daysAhead + DAYS_TO_MARCH - DAYS_TO_1970;
        }

        static int lengthOf(int month) {
            return firstOf(month + 1) - firstOf(month);
        }

        static int monthOf(int date) {
            // By the mean length of a month: firsts of months stray from it by a few days only,
            // never by a month, so the guess is wrong by one at most.
            long behind = (long) date + DAYS_TO_1970;
            int guess = (int) Math.floorDiv(behind * CYCLE_MONTHS, (long) CYCLE_DAYS);
            if (date < firstOf(guess)) {
                return guess - 1;
            }
            return date < firstOf(guess + 1) ? guess : guess + 1;
        }

        static int yearOf(int date) {
            return yearOfMonth(monthOf(date));
        }

        static int dayOf(int date) {
            return date - firstOf(monthOf(date)) + 1;
        }

        static int weekdayOf(int date) {
            // The DAY NUMBER 0 is the WEEKDAY 4, three behind the first one.
            return Math.floorMod(date + 3, WEEK) + 1;
        }

        /** The date in a month that has a day, or the last one there. */
        static int dateIn(int month, int day) {
            return Math.min(firstOf(month) + day, firstOf(month + 1)) - 1;
        }

        static int shifted(int date, int months) {
            int month = monthOf(date);
            return dateIn(month + months, date - firstOf(month) + 1);
        }

        static int lossOf(int date, int months) {
            return dayOf(date) - dayOf(shifted(date, months));
        }

        static boolean comesBack(int date, int months) {
            return shifted(shifted(date, months), -months) == date;
        }

        static int monthsFirst(int date, int months, int many) {
            return shifted(date, months) + many;
        }

        static int daysFirst(int date, int months, int many) {
            return shifted(date + many, months);
        }

        /** MONTHS IN ALL of the SPAN from a date UNTIL one that is not ahead of it. */
        static int monthsUntil(int from, int to) {
            int months = monthOf(to) - monthOf(from);
            return dayOf(to) < dayOf(from) ? months - 1 : months;
        }

        static int anniversary(int date, int which, boolean isLate) {
            int months = YEAR_MONTHS * which;
            // Only a 29th of the MONTH 2 loses its day by whole YEARS; the shift leads to the 28th.
            boolean isMoved = isLate && lossOf(date, months) > 0;
            return shifted(date, months) + (isMoved ? 1 : 0);
        }

        /** How many anniversaries of a date are not behind another one, which is not ahead of it. */
        static int anniversariesUntil(int date, int other, boolean isLate) {
            int years = yearOf(other) - yearOf(date);
            if (years > 0 && anniversary(date, years, isLate) > other) {
                return years - 1;
            }
            return years;
        }

        static boolean isToldAnew(int date) {
            int month = monthOf(date);
            int day = dayOf(date);
            int anew = dateIn(month, day);
            return anew == date && monthOf(anew) == month && dayOf(anew) == day;
        }

        static boolean isSoundByCycles(int date) {
            return shifted(date, CYCLE_MONTHS) - date == CYCLE_DAYS
                    && date - shifted(date, -CYCLE_MONTHS) == CYCLE_DAYS;
        }

        static boolean isSoundByMonths(int date) {
            int month = monthOf(date);
            int day = dayOf(date);
            for (int months = -SOUND_MONTHS; months <= SOUND_MONTHS; months++) {
                int there = shifted(date, months);
                int due = Math.min(day, lengthOf(month + months));
                boolean isThere = monthOf(there) == month + months && dayOf(there) == due;
                if (!isThere || comesBack(date, months) != (due == day)) {
                    return false;
                }
            }
            return true;
        }

        /** Of a date and another one that is not ahead of it. */
        static boolean isSoundPair(int date, int other) {
            int months = monthsUntil(date, other);
            int many = other - shifted(date, months);
            return monthsFirst(date, months, many) == other
                    && shifted(date, 1) <= shifted(other, 1);
        }
    }
}
