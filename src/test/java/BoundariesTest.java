import java.math.BigInteger;
import java.time.LocalDate;
import java.util.Arrays;
import java.util.HashSet;
import java.util.Set;

/**
 * Each sentence of the document that names a boundary case, on both sides of the boundary. Behind
 * every call the whole state is looked at: what becomes something is all that has become something,
 * and a call that is refused, that throws or that only asks has changed nothing.
 */
public final class BoundariesTest {
    private static final int LOW = Integer.MIN_VALUE;
    private static final int HIGH = Integer.MAX_VALUE;
    private static final int NONE = -1;
    private static final int REFUSED = -9;
    private static final Class<?> INDEX = IndexOutOfBoundsException.class;
    private static final Class<?> ARGUMENT = IllegalArgumentException.class;
    private static final Class<?> STATE = IllegalStateException.class;
    private static final String FIRST_DATE = "-9999-01-01";
    private static final String LAST_DATE = "9999-12-31";

    private static int checks = 0;
    private static int wrong = 0;
    private static String sentence = "";

    public static void main(String[] args) {
        description();
        dates();
        goingOn();
        spans();
        whatShiftsDo();
        monthsAndWeekdays();
        anniversaries();
        whatIsAsked();
        theWhole();
        System.out.println(wrong == 0 ? "all " + checks + " boundaries hold"
                : wrong + " of " + checks + " checks fail");
        if (wrong != 0) {
            System.exit(1);
        }
    }

    // ---- Description

    private static void description() {
        years();
        leapYears();
        lengthsOfMonths();
        monthNumbers();
        dayNumbers();
        weekdays();
        placesAndSpans();
        exceptionsInTheirOrder();
        beyondTheYearsOnTheWay();
        beyondTheYearsAsked();
        shiftsIntoShortMonths();
        spansStayAsTold();
    }

    private static void years() {
        sentence = "YEARS are -9999 to 9999";
        dateBecomes(-4371587, FIRST_DATE, at(), 0, x -> x.of(0, -9999, 1, 1));
        stays(ARGUMENT, at(), x -> x.of(0, -10000, 12, 31));
        dateBecomes(2932896, LAST_DATE, at(), 0, x -> x.of(0, 9999, 12, 31));
        stays(ARGUMENT, at(), x -> x.of(0, 10000, 1, 1));
        stays(inYearOfJavaTime(-9999, 31, 7), at(), x -> x.inYear(-9999, 31, 7));
        stays(ARGUMENT, at(), x -> x.inYear(-10000, 31, 7));
        stays(inYearOfJavaTime(9999, 31, 5), at(), x -> x.inYear(9999, 31, 5));
        stays(ARGUMENT, at(), x -> x.inYear(10000, 31, 5));
        sentence = "0 is ahead of 1, -1 ahead of 0";
        dateBecomes(-719529, "-0001-12-31", at(), 0, x -> x.of(0, -1, 12, 31));
        dateBecomes(-719528, "0000-01-01", at("-0001-12-31"), 0, x -> x.days(0, 1));
        dateBecomes(-719163, "0000-12-31", at(), 0, x -> x.of(0, 0, 12, 31));
        dateBecomes(-719162, "0001-01-01", at("0000-12-31"), 0, x -> x.days(0, 1));
        dateBecomes(-719529, "-0001-12-31", at("0000-01-01"), 0, x -> x.days(0, -1));
    }

    private static void leapYears() {
        sentence = "a YEAR is a LEAP YEAR, if 4 divides it, and 100 does not or 400 does";
        for (int year : new int[] {2024, 2020, 1904, 1896, 4, 8, 104, 2000, 1600, 400, 800, 0, -4,
                -8, -96, -104, -400, -800, -9996, -9600, 9996, 9600}) {
            leapYear(year);
        }
        for (int year : new int[] {2023, 2025, 2022, 1, 2, 3, 5, 100, 200, 300, 500, 1700, 1900,
                2100, -1, -2, -3, -5, -100, -200, -300, -500, -9999, -9900, 9999, 9900}) {
            commonYear(year);
        }
    }

    private static void leapYear(int year) {
        numberBecomes(number(year, 2, 29), at(), 1, x -> x.of(1, year, 2, 29));
        stays(STATE, at(), x -> x.of(1, year, 2, 30));
        dateBecomes(29, number(year, 2, 29), at(), 1, x -> x.ofMonth(1, 12 * year + 1, 30));
        stays(true, at(number(year, 1, 1)), x -> x.isLeapYear(0));
        stays(29, at(number(year, 2, 1)), x -> x.lengthOfMonth(0));
        stays(366, at(number(year, 12, 31)), x -> x.dayOfYear(0));
        stays(61, at(number(year, 3, 1)), x -> x.dayOfYear(0));
        stays(366, at(), x -> x.lengths(12 * year, 12));
    }

    private static void commonYear(int year) {
        numberBecomes(number(year, 2, 28), at(), 1, x -> x.of(1, year, 2, 28));
        stays(STATE, at(), x -> x.of(1, year, 2, 29));
        dateBecomes(28, number(year, 2, 28), at(), 1, x -> x.ofMonth(1, 12 * year + 1, 29));
        stays(false, at(number(year, 1, 1)), x -> x.isLeapYear(0));
        stays(28, at(number(year, 2, 1)), x -> x.lengthOfMonth(0));
        stays(365, at(number(year, 12, 31)), x -> x.dayOfYear(0));
        stays(60, at(number(year, 3, 1)), x -> x.dayOfYear(0));
        stays(365, at(), x -> x.lengths(12 * year, 12));
    }

    private static void lengthsOfMonths() {
        sentence = "MONTHS of a YEAR, with 31, 28, 31, 30, 31, 30, 31, 31, 30, 31, 30, 31 days";
        int[] lengths = {31, 28, 31, 30, 31, 30, 31, 31, 30, 31, 30, 31};
        for (int month = 1; month <= 12; month++) {
            int m = month;
            int length = lengths[month - 1];
            Class<?> beyond = length < 31 ? STATE : ARGUMENT;
            int last = number(2023, month, length);
            numberBecomes(last, at(), 4, x -> x.of(4, 2023, m, length));
            stays(beyond, at(), x -> x.of(4, 2023, m, length + 1));
            numberBecomes(last, at(number(2023, m, 5)), 0, x -> x.withDay(0, length));
            stays(beyond, at(number(2023, m, 5)), x -> x.withDay(0, length + 1));
            dateBecomes(length - 5, last, at(number(2023, m, 5)), 0, x -> x.last(0));
            stays(length, at(number(2023, m, 5)), x -> x.lengthOfMonth(0));
            stays(length, at(), x -> x.ofMonthNumber(12 * 2023 + m - 1, 2));
            stays(length, at(), x -> x.lengths(12 * 2023 + m - 1, 1));
        }
        stays(ARGUMENT, at(), x -> x.of(4, 2023, 0, 1));
        stays(ARGUMENT, at(), x -> x.of(4, 2023, 13, 1));
        stays(ARGUMENT, at(), x -> x.of(4, 2023, 1, 0));
        stays(ARGUMENT, at(), x -> x.of(4, 2023, 1, 32));
    }

    private static void monthNumbers() {
        sentence = "MONTH NUMBER: 0 is the MONTH 1 of the YEAR 0";
        stays(0, at("0000-01-31"), x -> x.month(0));
        stays(-1, at("-0001-12-31"), x -> x.month(0));
        stays(11, at("0000-12-01"), x -> x.month(0));
        stays(12, at("0001-01-01"), x -> x.month(0));
        stays(-12, at("-0001-01-01"), x -> x.month(0));
        stays(-13, at("-0002-12-31"), x -> x.month(0));
        stays(0, at(), x -> x.ofMonthNumber(11, 0));
        stays(12, at(), x -> x.ofMonthNumber(11, 1));
        stays(-1, at(), x -> x.ofMonthNumber(-1, 0));
        stays(12, at(), x -> x.ofMonthNumber(-1, 1));
        stays(-1, at(), x -> x.ofMonthNumber(-12, 0));
        stays(1, at(), x -> x.ofMonthNumber(-12, 1));
        stays(-719528, at(), x -> x.ofMonthNumber(0, 3));
        sentence = "MONTH NUMBERS: -119988 to 119999";
        stays(-119988, at(FIRST_DATE), x -> x.month(0));
        stays(119999, at(LAST_DATE), x -> x.month(0));
        dateBecomes(1, FIRST_DATE, at(), 0, x -> x.ofMonth(0, -119988, 1));
        stays(ARGUMENT, at(), x -> x.ofMonth(0, -119989, 31));
        dateBecomes(31, LAST_DATE, at(), 0, x -> x.ofMonth(0, 119999, 31));
        stays(ARGUMENT, at(), x -> x.ofMonth(0, 120000, 1));
        stays(-4371587, at(), x -> x.ofMonthNumber(-119988, 3));
        stays(2932866, at(), x -> x.ofMonthNumber(119999, 3));
        stays(31, at(), x -> x.lengths(-119988, 1));
        stays(31, at(), x -> x.lengths(119999, 1));
        stays(1, at(), x -> x.nth(-119988, 1, 1));
        stays(1, at(), x -> x.nth(119999, 3, 1));
        for (int number : new int[] {-119989, 120000, LOW, HIGH}) {
            stays(ARGUMENT, at(), x -> x.ofMonthNumber(number, 0));
            stays(ARGUMENT, at(), x -> x.lengths(number, 0));
            stays(ARGUMENT, at(), x -> x.nth(number, 1, 1));
            stays(ARGUMENT, at(), x -> x.ofMonth(0, number, 1));
        }
    }

    private static void dayNumbers() {
        sentence = "DAY NUMBERS: -4371587 to 2932896";
        dateBecomes(1, FIRST_DATE, at(), 5, x -> x.ofDay(5, -4371587));
        dateBecomes(5, LAST_DATE, at(), 5, x -> x.ofDay(5, 2932896));
        for (int number : new int[] {-4371588, 2932897, LOW, HIGH}) {
            stays(ARGUMENT, at(), x -> x.ofDay(5, number));
        }
        sentence = "DAY NUMBER: below 0, if it is ahead of the first day of the YEAR 1970";
        dateBecomes(0, "1970-01-01", at(), 5, x -> x.of(5, 1970, 1, 1));
        dateBecomes(-1, "1969-12-31", at(), 5, x -> x.of(5, 1969, 12, 31));
        sentence = "a DATE is ahead of another one, if its DAY NUMBER is less";
        stays(-1, at("1969-12-31", "1970-01-01"), x -> x.compare(0, 1));
        stays(0, at("1970-01-01", "1970-01-01"), x -> x.compare(0, 1));
        stays(1, at("1970-01-02", "1970-01-01"), x -> x.compare(0, 1));
    }

    private static void weekdays() {
        sentence = "WEEKDAYS: that of the DAY NUMBER 0 is 4, behind 7 comes 1";
        int[] due = {4, 5, 6, 7, 1, 2, 3, 4, 5, 6, 7, 1, 2, 3, 4, 5};
        for (int number = -7; number <= 8; number++) {
            int n = number;
            int weekday = due[number + 7];
            dateBecomes(weekday, n, at(), 2, x -> x.ofDay(2, n));
            stays(weekday, at(number), x -> x.weekday(0));
        }
        stays(1, at(FIRST_DATE), x -> x.weekday(0));
        stays(5, at(LAST_DATE), x -> x.weekday(0));
    }

    private static void placesAndSpans() {
        sentence = "PLACES 0 to 5 have a DATE each, at first that with the DAY NUMBER 0";
        for (int place = 0; place < 6; place++) {
            int p = place;
            stays(0, new Calendaract(), x -> x.number(p));
            stays("1970-01-01", new Calendaract(), x -> x.text(p));
        }
        sentence = "SPANS 0 to 2 have three numbers, all 0 at first";
        for (int span = 0; span < 3; span++) {
            for (int what = 0; what < 4; what++) {
                int s = span;
                int w = what;
                stays(0, new Calendaract(), x -> x.ofSpan(s, w));
            }
        }
        sentence = "there is no such PLACE";
        for (Indexed call : callsOfAPlace()) {
            isAnswered(call, 0);
            isAnswered(call, 5);
            for (int place : new int[] {-1, 6, LOW, HIGH}) {
                stays(INDEX, new Calendaract(), x -> call.on(x, place));
                stays(INDEX, prepared(), x -> call.on(x, place));
            }
        }
        sentence = "there is no such SPAN";
        for (Indexed call : callsOfASpan()) {
            isAnswered(call, 0);
            isAnswered(call, 2);
            for (int span : new int[] {-1, 3, LOW, HIGH}) {
                stays(INDEX, new Calendaract(), x -> call.on(x, span));
                stays(INDEX, prepared(), x -> call.on(x, span));
            }
        }
    }

    private static Indexed[] callsOfAPlace() {
        return new Indexed[] {
            (x, p) -> x.of(p, 2000, 1, 1), (x, p) -> x.ofDay(p, 0), (x, p) -> x.ofMonth(p, 0, 1),
            (x, p) -> x.copy(p, 1), (x, p) -> x.copy(1, p), (x, p) -> x.first(p),
            (x, p) -> x.last(p), (x, p) -> x.withDay(p, 1), (x, p) -> x.shift(p, 1),
            (x, p) -> x.shiftYears(p, 1), (x, p) -> x.days(p, 1), (x, p) -> x.cycles(p, 1),
            (x, p) -> x.act(p, 0, false, false), (x, p) -> x.act(p, 0, true, true),
            (x, p) -> x.actOften(p, 0, 2), (x, p) -> x.until(0, p, p), (x, p) -> x.until(0, 1, p),
            (x, p) -> x.until(0, p, 1), (x, p) -> x.isKept(p, 1), (x, p) -> x.loss(p, 1),
            (x, p) -> x.leadsBack(p, 1), (x, p) -> x.twice(p, 1, 1), (x, p) -> x.gap(p, 1, 1),
            (x, p) -> x.lowest(p, 1, 1), (x, p) -> x.met(p, 1, 1), (x, p) -> x.keeps(p, 1),
            (x, p) -> x.month(p), (x, p) -> x.weekday(p), (x, p) -> x.recurs(p, 1, 1),
            (x, p) -> x.age(p, 1), (x, p) -> x.age(1, p),
            (x, p) -> x.anniversaries(p, 1, false), (x, p) -> x.anniversaries(1, p, true),
            (x, p) -> x.toNext(p, 1, false), (x, p) -> x.toNext(1, p, true),
            (x, p) -> x.wholeMonths(p, 1), (x, p) -> x.wholeMonths(1, p), (x, p) -> x.year(p),
            (x, p) -> x.monthOfYear(p), (x, p) -> x.day(p), (x, p) -> x.dayOfYear(p),
            (x, p) -> x.number(p), (x, p) -> x.lengthOfMonth(p), (x, p) -> x.isLeapYear(p),
            (x, p) -> x.text(p), (x, p) -> x.compare(p, 1), (x, p) -> x.compare(1, p),
            (x, p) -> x.between(p, 1), (x, p) -> x.between(1, p),
        };
    }

    private static Indexed[] callsOfASpan() {
        return new Indexed[] {
            (x, s) -> x.act(0, s, false, true), (x, s) -> x.actOften(0, s, 1),
            (x, s) -> x.span(s, 1, 1, 1), (x, s) -> x.until(s, 0, 0), (x, s) -> x.addSpan(s, 1),
            (x, s) -> x.addSpan(1, s), (x, s) -> x.turnSpan(s), (x, s) -> x.ofSpan(s, 0),
        };
    }

    private static void isAnswered(Indexed call, int index) {
        Object got = answer(new Calendaract(), x -> call.on(x, index));
        check(!(got instanceof Class), index + " answered " + got);
    }

    private static void exceptionsInTheirOrder() {
        sentence = "the exception that is named first is thrown: no such PLACE or SPAN";
        Call[] ofIndex = {
            x -> x.of(6, 10000, 2, 30), x -> x.of(-1, 2023, 2, 29), x -> x.ofDay(6, 2932897),
            x -> x.ofMonth(6, 120000, 1), x -> x.ofMonth(6, 0, 32), x -> x.withDay(6, 32),
            x -> x.shift(6, 240001), x -> x.shiftYears(6, 20001), x -> x.days(6, 8000001),
            x -> x.cycles(6, 61), x -> x.actOften(6, 0, 25), x -> x.actOften(0, 3, 25),
            x -> x.actOften(3, -1, -1), x -> x.act(3, 3, false, false),
            x -> x.span(3, 20001, 0, 0), x -> x.span(3, 0, 240001, 0),
            x -> x.span(3, 0, 0, 100001), x -> x.until(3, 0, 4), x -> x.addSpan(2, 3),
            x -> x.addSpan(3, 2), x -> x.ofSpan(3, 4), x -> x.isKept(6, 240001),
            x -> x.loss(6, 240001), x -> x.leadsBack(6, 240001), x -> x.twice(6, 240001, 0),
            x -> x.twice(6, 0, 240001), x -> x.gap(6, 240001, 0), x -> x.gap(6, 0, 100001),
            x -> x.lowest(6, 1201, 0), x -> x.lowest(6, 0, 49), x -> x.met(6, 1201, 0),
            x -> x.met(6, 0, 49), x -> x.keeps(6, 1201), x -> x.recurs(6, 8, 0),
            x -> x.recurs(6, 1, 49), x -> x.age(0, 6), x -> x.age(6, 4),
            x -> x.anniversaries(6, 4, true), x -> x.anniversaries(0, 6, true),
            x -> x.toNext(6, 4, true), x -> x.toNext(0, 6, true),
        };
        for (Call call : ofIndex) {
            stays(INDEX, prepared(), call);
        }
        sentence = "the exception that is named first is thrown: arguments ahead of the state";
        Call[] ofArgument = {
            x -> x.of(0, 2023, 2, 32), x -> x.of(0, 10001, 2, 29), x -> x.of(0, 2023, 13, 31),
            x -> x.withDay(1, 32), x -> x.shift(3, 240001), x -> x.shift(2, -240001),
            x -> x.shiftYears(3, 20001), x -> x.shiftYears(2, -20001),
            x -> x.days(3, 8000001), x -> x.days(2, -8000001), x -> x.cycles(3, 61),
            x -> x.cycles(2, -61), x -> x.actOften(3, 1, 25), x -> x.actOften(3, 1, -1),
        };
        for (Call call : ofArgument) {
            stays(ARGUMENT, prepared(), call);
        }
    }

    private static void beyondTheYearsOnTheWay() {
        sentence = "what is reckoned on the way may be beyond these YEARS, what a PLACE gets not";
        acts(2932896, LAST_DATE, 1, -31, false);
        acts(STATE, LAST_DATE, 1, -30, false);
        acts(2932896, LAST_DATE, -1, 31, true);
        acts(STATE, LAST_DATE, -1, 32, true);
        acts(-4371587, FIRST_DATE, -1, 31, false);
        acts(STATE, FIRST_DATE, -1, 30, false);
        acts(-4371587, FIRST_DATE, 1, -31, true);
        acts(STATE, FIRST_DATE, 1, -32, true);
        acts(2932896, "9999-12-15", 0, 16, false);
        acts(STATE, "9999-12-15", 0, 17, false);
        acts(2932896, "9999-12-15", 0, 16, true);
        acts(STATE, "9999-12-15", 0, 17, true);
        acts(-4371587, "-9999-01-17", 0, -16, false);
        acts(STATE, "-9999-01-17", 0, -17, true);
        // All three numbers at their most, there and back again on the way.
        acts(STATE, LAST_DATE, 480000, 100000, false);
        acts(STATE, FIRST_DATE, -480000, -100000, true);
    }

    /** The same by the SPAN itself, by the turned one back, and by once of actOften(). */
    private static void acts(Object want, String date, int months, int many, boolean isDaysFirst) {
        int years = Math.abs(months) > 240000 ? months / 24 : 0;
        int rest = months - 12 * years;
        for (boolean isBack : new boolean[] {false, true}) {
            int sign = isBack ? -1 : 1;
            Calendaract x = at(date);
            x.span(1, sign * years, sign * rest, sign * many);
            numberBecomesOrStays(want, x, 0, y -> y.act(0, 1, isDaysFirst, isBack));
        }
        if (!isDaysFirst) {
            Calendaract x = at(date);
            x.span(1, years, rest, many);
            numberBecomesOrStays(want, x, 0, y -> y.actOften(0, 1, 1));
        }
    }

    private static void beyondTheYearsAsked() {
        sentence = "what is only asked may be beyond these YEARS, the same rules hold there";
        stays(0, at(LAST_DATE), x -> x.loss(0, 1));
        stays(2, at(LAST_DATE), x -> x.loss(0, 2));
        stays(3, at(LAST_DATE), x -> x.loss(0, 14));
        stays(0, at(LAST_DATE), x -> x.loss(0, 240000));
        stays(1, at(LAST_DATE), x -> x.loss(0, 239999));
        stays(0, at("-9999-01-31"), x -> x.loss(0, -1));
        stays(2, at("-9999-01-31"), x -> x.loss(0, -11));
        stays(3, at("-9999-01-31"), x -> x.loss(0, -23));
        stays(0, at("-9999-01-31"), x -> x.loss(0, -240000));
        stays(true, at(LAST_DATE), x -> x.isKept(0, 1));
        stays(false, at(LAST_DATE), x -> x.isKept(0, 2));
        stays(true, at(LAST_DATE), x -> x.leadsBack(0, 1));
        stays(false, at(LAST_DATE), x -> x.leadsBack(0, 2));
        stays(2, at(LAST_DATE), x -> x.twice(0, 2, 1));
        stays(0, at(LAST_DATE), x -> x.twice(0, 240000, 240000));
        stays(3, at("-9999-01-31"), x -> x.twice(0, -23, -1));
        stays(0, at("-9999-01-31"), x -> x.twice(0, -240000, -240000));
        stays(0, at("9999-12-01"), x -> x.gap(0, 2, 28));
        stays(-1, at("9999-12-01"), x -> x.gap(0, 2, 29));
        stays(-2, at("9999-12-01"), x -> x.gap(0, 2, 30));
        stays(-2, at("9999-12-01"), x -> x.gap(0, 2, 31));
        stays("31 29", at(LAST_DATE), x -> x.met(0, 2, 6));
        stays("31 29 28", at(LAST_DATE), x -> x.met(0, 2, 7));
        stays(29, at(LAST_DATE), x -> x.lowest(0, 2, 6));
        stays(28, at(LAST_DATE), x -> x.lowest(0, 2, 7));
        stays(31, at(LAST_DATE), x -> x.lowest(0, 1200, 48));
        stays(31, at("-9999-01-31"), x -> x.lowest(0, -1200, 48));
        stays(1, at(LAST_DATE), x -> x.keeps(0, 2));
        stays(91, at(), x -> x.lengths(119999, 3));
        stays(1461, at(), x -> x.lengths(119999, 48));
        stays(1, at(LAST_DATE), x -> x.recurs(0, 7, 1));
        stays(0, at(LAST_DATE), x -> x.recurs(0, 6, 1));
        stays(366, at(LAST_DATE, LAST_DATE), x -> x.toNext(0, 1, false));
        stays(1, at("9998-12-31", LAST_DATE), x -> x.anniversaries(0, 1, true));
    }

    private static void shiftsIntoShortMonths() {
        sentence = "its day stays, but if the month has not so many days, it becomes the last one";
        dateBecomes(28, "2023-02-28", at("2023-01-28"), 0, x -> x.shift(0, 1));
        dateBecomes(28, "2023-02-28", at("2023-01-29"), 0, x -> x.shift(0, 1));
        dateBecomes(28, "2023-02-28", at("2023-01-31"), 0, x -> x.shift(0, 1));
        dateBecomes(29, "2024-02-29", at("2024-01-29"), 0, x -> x.shift(0, 1));
        dateBecomes(29, "2024-02-29", at("2024-01-30"), 0, x -> x.shift(0, 1));
        dateBecomes(30, "2023-04-30", at("2023-03-30"), 0, x -> x.shift(0, 1));
        dateBecomes(30, "2023-04-30", at("2023-03-31"), 0, x -> x.shift(0, 1));
        dateBecomes(31, "2023-08-31", at("2023-07-31"), 0, x -> x.shift(0, 1));
        dateBecomes(28, "2023-02-28", at("2023-03-29"), 0, x -> x.shift(0, -1));
        dateBecomes(30, "2022-11-30", at("2022-12-31"), 0, x -> x.shift(0, -1));
        dateBecomes(31, "2022-12-31", at("2023-01-31"), 0, x -> x.shift(0, -1));
        dateBecomes(28, "2023-03-28", at("2023-02-28"), 0, x -> x.shift(0, 1));
        dateBecomes(29, "-0004-02-29", at("-0004-01-31"), 0, x -> x.shift(0, 1));
        dateBecomes(31, "-0001-12-31", at("0000-01-31"), 0, x -> x.shift(0, -1));
        sentence = "a SHIFT by 0 months: the same DATE, told all the same";
        dateBecomes(31, "2023-01-31", at("2023-01-31"), 0, x -> x.shift(0, 0));
        dateBecomes(29, "2024-02-29", at("2024-02-29"), 0, x -> x.shiftYears(0, 0));
        dateBecomes(19388, "2023-01-31", at("2023-01-31"), 0, x -> x.cycles(0, 0));
        dateBecomes(19388, "2023-01-31", at("2023-01-31"), 0, x -> x.days(0, 0));
    }

    private static void spansStayAsTold() {
        sentence = "14 MONTHS do not become 1 of the YEARS";
        spanBecomes(14, at(), 0, new int[] {0, 14, 0}, x -> x.span(0, 0, 14, 0));
        spanBecomes(12, at(), 0, new int[] {0, 12, 0}, x -> x.span(0, 0, 12, 0));
        spanBecomes(0, at(), 0, new int[] {1, -12, 365}, x -> x.span(0, 1, -12, 365));
        spanBecomes(24, at(), 0, new int[] {1, 12, 31}, x -> x.span(0, 1, 12, 31));
        sentence = "MONTHS FIRST, or DAYS FIRST: the other way round";
        acts(number(2023, 3, 30), "2023-01-31", 1, 30, false);
        acts(number(2023, 4, 2), "2023-01-31", 1, 30, true);
        acts(number(2023, 3, 1), "2023-01-31", 1, 1, false);
        acts(number(2023, 3, 1), "2023-01-31", 1, 1, true);
        acts(number(2023, 2, 27), "2023-03-31", -1, -1, false);
        acts(number(2023, 2, 28), "2023-03-31", -1, -1, true);
    }

    // ---- promises 2 to 8

    private static void dates() {
        sentence = "4 ofMonth: the last one of that month, if that has not so many";
        dateBecomes(28, "2023-02-28", at(), 3, x -> x.ofMonth(3, 24277, 28));
        dateBecomes(28, "2023-02-28", at(), 3, x -> x.ofMonth(3, 24277, 29));
        dateBecomes(28, "2023-02-28", at(), 3, x -> x.ofMonth(3, 24277, 31));
        dateBecomes(30, "2023-04-30", at(), 3, x -> x.ofMonth(3, 24279, 30));
        dateBecomes(30, "2023-04-30", at(), 3, x -> x.ofMonth(3, 24279, 31));
        dateBecomes(1, "2023-04-01", at(), 3, x -> x.ofMonth(3, 24279, 1));
        for (int day : new int[] {0, 32, LOW, HIGH}) {
            stays(ARGUMENT, at(), x -> x.ofMonth(3, 24279, day));
            stays(ARGUMENT, at(), x -> x.of(3, 2023, 5, day));
            stays(ARGUMENT, at(), x -> x.withDay(3, day));
        }
        for (int other : new int[] {LOW, HIGH}) {
            stays(ARGUMENT, at(), x -> x.of(3, other, 5, 1));
            stays(ARGUMENT, at(), x -> x.of(3, 2023, other, 1));
        }
        sentence = "5 copy: the other one, or the same";
        dateBecomes(19388, "2023-01-31", at("2023-01-31"), 5, x -> x.copy(5, 0));
        dateBecomes(0, "1970-01-01", at("2023-01-31"), 0, x -> x.copy(0, 5));
        dateBecomes(19388, "2023-01-31", at("2023-01-31"), 0, x -> x.copy(0, 0));
        sentence = "6 first: how many DAYS back that was";
        dateBecomes(0, "2024-02-01", at("2024-02-01"), 0, x -> x.first(0));
        dateBecomes(1, "2024-02-01", at("2024-02-02"), 0, x -> x.first(0));
        dateBecomes(28, "2024-02-01", at("2024-02-29"), 0, x -> x.first(0));
        dateBecomes(0, FIRST_DATE, at(FIRST_DATE), 0, x -> x.first(0));
        dateBecomes(30, FIRST_DATE, at("-9999-01-31"), 0, x -> x.first(0));
        sentence = "7 last: how many DAYS on that was";
        dateBecomes(0, "2024-02-29", at("2024-02-29"), 0, x -> x.last(0));
        dateBecomes(1, "2024-02-29", at("2024-02-28"), 0, x -> x.last(0));
        dateBecomes(0, "2023-02-28", at("2023-02-28"), 0, x -> x.last(0));
        dateBecomes(0, LAST_DATE, at(LAST_DATE), 0, x -> x.last(0));
        dateBecomes(30, LAST_DATE, at("9999-12-01"), 0, x -> x.last(0));
        sentence = "8 withDay: its month has not so many";
        dateBecomes(19781, "2024-02-28", at("2024-02-29"), 0, x -> x.withDay(0, 28));
        dateBecomes(19782, "2024-02-29", at("2024-02-29"), 0, x -> x.withDay(0, 29));
        stays(STATE, at("2024-02-29"), x -> x.withDay(0, 30));
        stays(STATE, at("2023-02-28"), x -> x.withDay(0, 29));
        stays(STATE, at("2023-11-30"), x -> x.withDay(0, 31));
        dateBecomes(2932896, LAST_DATE, at("9999-12-01"), 0, x -> x.withDay(0, 31));
        dateBecomes(-4371587, FIRST_DATE, at("-9999-01-31"), 0, x -> x.withDay(0, 1));
    }

    // ---- promises 9 to 14

    private static void goingOn() {
        sentence = "9 shift: months -240000 to 240000, and it would be no DATE";
        dateBecomes(31, LAST_DATE, at("-9999-01-31"), 0, x -> x.shift(0, 239987));
        stays(STATE, at("-9999-01-31"), x -> x.shift(0, 239988));
        dateBecomes(31, "-9999-01-31", at(LAST_DATE), 0, x -> x.shift(0, -239987));
        stays(STATE, at(LAST_DATE), x -> x.shift(0, -239988));
        dateBecomes(1, "9999-12-01", at("9999-11-01"), 0, x -> x.shift(0, 1));
        stays(STATE, at("9999-12-01"), x -> x.shift(0, 1));
        dateBecomes(31, "-9999-01-31", at("-9999-03-31"), 0, x -> x.shift(0, -2));
        stays(STATE, at("-9999-01-31"), x -> x.shift(0, -1));
        isOutOfRange(240000, (x, months) -> x.shift(0, months));
        sentence = "10 shiftYears: years -20000 to 20000, and it would be no DATE";
        dateBecomes(31, LAST_DATE, at("-9999-12-31"), 0, x -> x.shiftYears(0, 19998));
        stays(STATE, at("-9999-12-31"), x -> x.shiftYears(0, 19999));
        dateBecomes(1, FIRST_DATE, at("9999-01-01"), 0, x -> x.shiftYears(0, -19998));
        stays(STATE, at("9999-01-01"), x -> x.shiftYears(0, -19999));
        dateBecomes(28, "2023-02-28", at("2024-02-29"), 0, x -> x.shiftYears(0, -1));
        dateBecomes(29, "2020-02-29", at("2024-02-29"), 0, x -> x.shiftYears(0, -4));
        dateBecomes(28, "1900-02-28", at("2000-02-29"), 0, x -> x.shiftYears(0, -100));
        dateBecomes(29, "2400-02-29", at("2000-02-29"), 0, x -> x.shiftYears(0, 400));
        isOutOfRange(20000, (x, years) -> x.shiftYears(0, years));
        sentence = "11 days: many -8000000 to 8000000, and it would be no DATE";
        dateBecomes(2932896, LAST_DATE, at(FIRST_DATE), 0, x -> x.days(0, 7304483));
        stays(STATE, at(FIRST_DATE), x -> x.days(0, 7304484));
        dateBecomes(-4371587, FIRST_DATE, at(LAST_DATE), 0, x -> x.days(0, -7304483));
        stays(STATE, at(LAST_DATE), x -> x.days(0, -7304484));
        isOutOfRange(8000000, (x, many) -> x.days(0, many));
        sentence = "12 cycles: many -60 to 60, and it would be no DATE";
        dateBecomes(11016 + 146097, "2400-02-29", at("2000-02-29"), 0, x -> x.cycles(0, 1));
        dateBecomes(11016 - 146097, "1600-02-29", at("2000-02-29"), 0, x -> x.cycles(0, -1));
        dateBecomes(2932896, LAST_DATE, at("-9601-12-31"), 0, x -> x.cycles(0, 49));
        stays(STATE, at("-9601-12-31"), x -> x.cycles(0, 50));
        dateBecomes(-4371587, FIRST_DATE, at("9601-01-01"), 0, x -> x.cycles(0, -49));
        stays(STATE, at("9601-01-01"), x -> x.cycles(0, -50));
        stays(STATE, at("9600-01-01"), x -> x.cycles(0, 1));
        isOutOfRange(60, (x, many) -> x.cycles(0, many));
        sentence = "14 actOften: times 0 to 24, and it would be no DATE in the end";
        actsOften();
    }

    /** The ends of a range lead to no DATE, and what is beyond them is refused for itself. */
    private static void isOutOfRange(int most, Indexed call) {
        for (int many : new int[] {-most, most}) {
            stays(STATE, at("2023-01-31"), x -> call.on(x, many));
        }
        beyond(-most, most, call);
    }

    private static void actsOften() {
        dateBecomes(19388, "2023-01-31", prepared(), 0, x -> x.actOften(0, 1, 0));
        dateBecomes(2932896, LAST_DATE, prepared(), 3, x -> x.actOften(3, 2, 0));
        numberBecomes(number(2023, 3, 1), with("2023-01-31", 1, 1), 0,
                x -> x.actOften(0, 0, 1));
        numberBecomes(number(2023, 4, 2), with("2023-01-31", 1, 1), 0,
                x -> x.actOften(0, 0, 2));
        numberBecomes(number(2025, 2, 25), with("2023-02-25", 1, 0), 0,
                x -> x.actOften(0, 0, 24));
        dateBecomes(2932896, LAST_DATE, with("9999-12-07", 0, 1), 0, x -> x.actOften(0, 0, 24));
        stays(STATE, with("9999-12-08", 0, 1), x -> x.actOften(0, 0, 24));
        dateBecomes(2932896, LAST_DATE, with("9999-12-08", 0, 1), 0, x -> x.actOften(0, 0, 23));
        dateBecomes(-4371587, FIRST_DATE, with("-9999-01-25", 0, -1), 0,
                x -> x.actOften(0, 0, 24));
        stays(STATE, with("-9999-01-24", 0, -1), x -> x.actOften(0, 0, 24));
        // Each time it goes beyond the YEARS on the way, and back into them.
        dateBecomes(2932896, LAST_DATE, with(LAST_DATE, 1, -31), 0, x -> x.actOften(0, 0, 24));
        stays(STATE, with(LAST_DATE, 1, -30), x -> x.actOften(0, 0, 1));
        stays(STATE, prepared(), x -> x.actOften(0, 2, 24));
        beyond(0, 24, (x, times) -> x.actOften(0, 1, times));
    }

    // ---- promises 15 to 19

    private static void spans() {
        sentence = "15 span: years not -20000 to 20000, or likewise its months and days";
        for (int sign : new int[] {-1, 1}) {
            int[] most = {20000 * sign, 240000 * sign, 100000 * sign};
            spanBecomes(480000 * sign, at(), 2, most, x -> x.span(2, most[0], most[1], most[2]));
            stays(ARGUMENT, prepared(), x -> x.span(0, most[0] + sign, 0, 0));
            stays(ARGUMENT, prepared(), x -> x.span(0, 0, most[1] + sign, 0));
            stays(ARGUMENT, prepared(), x -> x.span(0, 0, 0, most[2] + sign));
        }
        for (int far : new int[] {LOW, HIGH}) {
            stays(ARGUMENT, prepared(), x -> x.span(0, far, 0, 0));
            stays(ARGUMENT, prepared(), x -> x.span(0, 0, far, 0));
            stays(ARGUMENT, prepared(), x -> x.span(0, 0, 0, far));
        }
        until();
        addSpan();
        sentence = "18 turnSpan: all numbers get the other sign";
        spanBecomes(0, new Calendaract(), 1, new int[] {0, 0, 0}, x -> x.turnSpan(1));
        spanBecomes(-26, prepared(), 0, new int[] {-1, -14, 3}, x -> x.turnSpan(0));
        spanBecomes(-480000, prepared(), 2, new int[] {-20000, -240000, -100000},
                x -> x.turnSpan(2));
        sentence = "19 ofSpan: what is 0 to 3";
        int[] due = {1, 14, -3, 26};
        for (int what = 0; what < 4; what++) {
            int w = what;
            stays(due[what], prepared(), x -> x.ofSpan(0, w));
        }
        for (int what : new int[] {-1, 4, LOW, HIGH}) {
            stays(ARGUMENT, prepared(), x -> x.ofSpan(0, what));
        }
    }

    private static void until() {
        sentence = "16 until: m is 1 less, if the day of b is less than that of a";
        untilBecomes("2023-01-15", "2023-03-14", 0, 1, 27);
        untilBecomes("2023-01-15", "2023-03-15", 0, 2, 0);
        untilBecomes("2023-01-15", "2023-03-16", 0, 2, 1);
        untilBecomes("2023-01-31", "2023-02-28", 0, 0, 28);
        untilBecomes("2023-01-31", "2023-03-01", 0, 1, 1);
        untilBecomes("2023-01-31", "2023-03-30", 0, 1, 30);
        untilBecomes("2023-01-31", "2023-03-31", 0, 2, 0);
        untilBecomes("2024-02-29", "2025-02-28", 0, 11, 30);
        untilBecomes("2024-02-29", "2025-03-01", 1, 0, 1);
        sentence = "16 until: YEARS are m / 12 (rounded down), MONTHS what is left";
        untilBecomes("2023-01-15", "2023-12-15", 0, 11, 0);
        untilBecomes("2023-01-15", "2024-01-14", 0, 11, 30);
        untilBecomes("2023-01-15", "2024-01-15", 1, 0, 0);
        untilBecomes("-0001-12-31", "0000-01-01", 0, 0, 1);
        untilBecomes("-0001-12-31", "0000-12-31", 1, 0, 0);
        untilBecomes(FIRST_DATE, LAST_DATE, 19998, 11, 30);
        sentence = "16 until: the other one is ahead of the first one";
        untilBecomes("2023-01-31", "2023-02-01", 0, 0, 1);
        untilBecomes("2023-01-31", "2023-01-31", 0, 0, 0);
        stays(STATE, at("2023-01-31", "2023-01-30"), x -> x.until(0, 0, 1));
        stays(STATE, at(LAST_DATE, FIRST_DATE), x -> x.until(0, 0, 1));
        stays(STATE, prepared(), x -> x.until(0, 0, 4));
        sentence = "16 until: the PLACE of the other one, or the same";
        spanBecomes(0, prepared(), 0, new int[] {0, 0, 0}, x -> x.until(0, 3, 3));
    }

    private static void untilBecomes(String from, String to, int years, int months, int many) {
        spanBecomes(many, at(from, to), 1, new int[] {years, months, many},
                x -> x.until(1, 0, 1));
        Calendaract x = at(from, to);
        x.until(1, 0, 1);
        dateBecomes((int) LocalDate.parse(to).toEpochDay(), to, x, 0,
                y -> y.act(0, 1, false, false));
        stays(12 * years + months, at(from, to), y -> y.wholeMonths(0, 1));
        stays(-12 * years - months, at(from, to), y -> y.wholeMonths(1, 0));
        stays(years, at(from, to), y -> y.age(0, 1));
        if (!from.equals(to)) {
            stays(STATE, at(from, to), y -> y.age(1, 0));
            stays(STATE, at(from, to), y -> y.until(1, 1, 0));
        }
    }

    private static void addSpan() {
        sentence = "17 addSpan: one of the three would be out of its range";
        int[] most = {20000, 240000, 100000};
        for (int which = 0; which < 3; which++) {
            for (int sign : new int[] {-1, 1}) {
                int[] end = new int[3];
                end[which] = sign * most[which];
                int[] one = new int[3];
                one[which] = sign;
                int[] oneLess = new int[3];
                oneLess[which] = end[which] - sign;
                spanBecomes(end[2], withSpans(oneLess, one), 0, end, x -> x.addSpan(0, 1));
                stays(STATE, withSpans(end, one), x -> x.addSpan(0, 1));
                stays(STATE, withSpans(one, end), x -> x.addSpan(0, 1));
                stays(STATE, withSpans(end, end), x -> x.addSpan(0, 1));
                sentence = "17 addSpan: the other one, or the same";
                int[] half = new int[3];
                half[which] = end[which] / 2;
                spanBecomes(end[2], withSpans(half, one), 0, end, x -> x.addSpan(0, 0));
                half[which] = end[which] / 2 + sign;
                stays(STATE, withSpans(half, one), x -> x.addSpan(0, 0));
                sentence = "17 addSpan: one of the three would be out of its range";
            }
        }
        spanBecomes(0, withSpans(new int[] {0, 0, 0}, new int[] {0, 0, 0}), 1,
                new int[] {0, 0, 0}, x -> x.addSpan(1, 1));
        spanBecomes(27, prepared(), 0, new int[] {1, 15, 27}, x -> x.addSpan(0, 1));
    }

    // ---- promises 20 to 27

    private static void whatShiftsDo() {
        keptAndLost();
        sentence = "23 twice: once by both together, than by the one, then by the other one";
        stays(3, at("2023-01-31"), x -> x.twice(0, 1, 1));
        stays(2, at("2023-01-30"), x -> x.twice(0, 1, 1));
        stays(0, at("2023-01-28"), x -> x.twice(0, 1, 1));
        stays(3, at("2023-01-31"), x -> x.twice(0, 1, -1));
        stays(0, at("2023-01-31"), x -> x.twice(0, 0, 1));
        stays(0, at("2023-01-31"), x -> x.twice(0, 1, 0));
        stays(0, at("2023-01-31"), x -> x.twice(0, 0, 0));
        stays(0, at("2023-01-31"), x -> x.twice(0, -240000, 240000));
        isAsked(-240000, 240000, (x, months) -> x.twice(0, months, 0));
        isAsked(-240000, 240000, (x, more) -> x.twice(0, 0, more));
        sentence = "24 gap: days first than the other way round (below 0: earlier)";
        stays(0, at("2023-01-31"), x -> x.gap(0, 1, 28));
        stays(3, at("2023-01-31"), x -> x.gap(0, 1, 29));
        stays(3, at("2023-01-31"), x -> x.gap(0, 1, 30));
        stays(-3, at("2023-01-01"), x -> x.gap(0, 1, 31));
        stays(0, at("2023-01-31"), x -> x.gap(0, 0, 100000));
        stays(0, at("2023-01-31"), x -> x.gap(0, 240000, 0));
        stays(0, at("2023-01-31"), x -> x.gap(0, 0, 0));
        isAsked(-240000, 240000, (x, months) -> x.gap(0, months, 1));
        isAsked(-100000, 100000, (x, many) -> x.gap(0, 1, many));
        lowestAndMet();
        keeps();
    }

    private static void keptAndLost() {
        sentence = "20 isKept, 21 loss, 22 leadsBack: SHIFTED so";
        lost(0, "2023-01-28", 1);
        lost(1, "2023-01-29", 1);
        lost(3, "2023-01-31", 1);
        lost(0, "2024-01-29", 1);
        lost(1, "2024-01-30", 1);
        lost(0, "2023-03-30", 1);
        lost(1, "2023-03-31", 1);
        lost(0, "2023-03-31", 0);
        lost(0, "2023-03-31", -240000);
        lost(0, "2023-03-31", 240000);
        lost(3, "2023-03-31", -1);
        lost(0, "2023-02-28", 1);
        lost(0, "2024-02-29", 48);
        lost(1, "2024-02-29", 12);
        lost(1, "2000-02-29", 1200);
        lost(0, "2000-02-29", 4800);
        isAsked(-240000, 240000, (x, months) -> x.isKept(0, months));
        isAsked(-240000, 240000, (x, months) -> x.loss(0, months));
        isAsked(-240000, 240000, (x, months) -> x.leadsBack(0, months));
    }

    private static void lost(int loss, String date, int months) {
        stays(loss, at(date), x -> x.loss(0, months));
        stays(loss == 0, at(date), x -> x.isKept(0, months));
        stays(loss == 0, at(date), x -> x.leadsBack(0, months));
    }

    private static void lowestAndMet() {
        sentence = "25 lowest, 26 met: so often by so many, 0 times, by 0 months";
        onTheWay("31", "2023-01-31", 1, 0);
        onTheWay("31 28", "2023-01-31", 1, 1);
        onTheWay("31 28", "2023-01-31", 1, 48);
        onTheWay("31", "2023-01-31", 0, 48);
        onTheWay("31", "2023-01-31", 12, 48);
        onTheWay("31", "2023-01-31", 1200, 48);
        onTheWay("31", "2023-01-31", -1200, 48);
        onTheWay("31", "2023-07-31", 1, 1);
        onTheWay("31 30", "2023-07-31", 1, 2);
        onTheWay("31 30", "2023-07-31", 1, 6);
        onTheWay("31 30 29", "2023-07-31", 1, 7);
        onTheWay("31 30 29", "2023-07-31", 1, 18);
        onTheWay("31 30 29 28", "2023-07-31", 1, 19);
        onTheWay("31 30 29 28", "2023-07-31", 1, 48);
        onTheWay("31 30 28", "2022-07-31", 1, 48);
        onTheWay("29", "1904-02-29", 48, 48);
        onTheWay("29", "1908-02-29", 48, 47);
        onTheWay("29 28", "1908-02-29", 48, 48);
        onTheWay("1", "2023-01-01", 1, 48);
        onTheWay("28", "2023-01-28", 1, 48);
        isAsked(-1200, 1200, (x, months) -> x.lowest(0, months, 1));
        isAsked(0, 48, (x, times) -> x.lowest(0, 1, times));
        isAsked(-1200, 1200, (x, months) -> x.met(0, months, 1));
        isAsked(0, 48, (x, times) -> x.met(0, 1, times));
    }

    private static void onTheWay(String met, String date, int months, int times) {
        stays(met, at(date), x -> x.met(0, months, times));
        int lowest = Integer.parseInt(met.substring(met.lastIndexOf(' ') + 1));
        stays(lowest, at(date), x -> x.lowest(0, months, times));
    }

    private static void keeps() {
        sentence = "27 keeps: the number of the first one behind which its day is less";
        stays(1, at("2023-01-31"), x -> x.keeps(0, 1));
        stays(2, at("2023-07-31"), x -> x.keeps(0, 1));
        stays(6, at("2023-08-30"), x -> x.keeps(0, 1));
        stays(2, at("2023-01-31"), x -> x.keeps(0, -1));
        stays(1, at("2023-03-29"), x -> x.keeps(0, -1));
        sentence = "27 keeps: NONE if it is none of the first 48";
        stays(NONE, at("2023-01-28"), x -> x.keeps(0, 1));
        stays(NONE, at("2023-01-31"), x -> x.keeps(0, 12));
        stays(NONE, at("2023-01-31"), x -> x.keeps(0, 0));
        stays(47, at("1912-02-29"), x -> x.keeps(0, 48));
        stays(48, at("1908-02-29"), x -> x.keeps(0, 48));
        stays(NONE, at("1904-02-29"), x -> x.keeps(0, 48));
        stays(48, at("2092-02-29"), x -> x.keeps(0, -48));
        stays(NONE, at("2096-02-29"), x -> x.keeps(0, -48));
        isAsked(-1200, 1200, (x, months) -> x.keeps(0, months));
    }

    // ---- promises 28 to 34

    private static void monthsAndWeekdays() {
        sentence = "29 ofMonthNumber: what is 0 to 3";
        int[] due = {2023, 2, 28, 19389};
        for (int what = 0; what < 4; what++) {
            int w = what;
            stays(due[what], prepared(), x -> x.ofMonthNumber(24277, w));
        }
        isAsked(0, 3, (x, what) -> x.ofMonthNumber(24277, what));
        sentence = "30 lengths: many is 0 to 48";
        stays(0, at(), x -> x.lengths(24277, 0));
        stays(28, at(), x -> x.lengths(24277, 1));
        stays(1461, at(), x -> x.lengths(24277, 48));
        stays(1460, at(), x -> x.lengths(22764, 48));
        stays(1460, at(), x -> x.lengths(22801, 48));
        stays(1461, at(), x -> x.lengths(22802, 48));
        isAsked(0, 48, (x, many) -> x.lengths(24277, many));
        sentence = "32 nth: its day; NONE if there is none";
        // The MONTH 2 of 2023 begins with the WEEKDAY 3 and has each of them four times.
        stays(1, at(), x -> x.nth(24277, 3, 1));
        stays(7, at(), x -> x.nth(24277, 2, 1));
        stays(22, at(), x -> x.nth(24277, 3, 4));
        stays(28, at(), x -> x.nth(24277, 2, 4));
        stays(NONE, at(), x -> x.nth(24277, 3, 5));
        stays(NONE, at(), x -> x.nth(24277, 2, 5));
        // That of 2024 begins with 4, and has a 29th; the MONTH 1 of 2023 ends with 2, its 31st.
        stays(29, at(), x -> x.nth(24289, 4, 5));
        stays(NONE, at(), x -> x.nth(24289, 5, 5));
        stays(31, at(), x -> x.nth(24276, 2, 5));
        stays(NONE, at(), x -> x.nth(24276, 3, 5));
        isAsked(1, 7, (x, weekday) -> x.nth(24277, weekday, 1));
        isAsked(1, 5, (x, which) -> x.nth(24277, 1, which));
        inYearAndRecurs();
    }

    private static void inYearAndRecurs() {
        sentence = "33 inYear: in how many of its months there is that day";
        for (int year : new int[] {2023, 2024, 1900, 0, -1, -4}) {
            for (int day : new int[] {1, 28, 29, 30, 31}) {
                int y = year;
                int d = day;
                stays(day < 29 || day == 29 && LocalDate.of(year, 1, 1).isLeapYear() ? 12
                        : day < 31 ? 11 : 7, at(), x -> inAllWeekdays(x, y, d));
            }
        }
        stays(2, at(), x -> x.inYear(2023, 13, 5));
        stays(2, at(), x -> x.inYear(2024, 13, 5));
        stays(inYearOfJavaTime(2024, 29, 4), at(), x -> x.inYear(2024, 29, 4));
        isAsked(-9999, 9999, (x, year) -> x.inYear(year, 1, 1));
        isAsked(1, 31, (x, day) -> x.inYear(2023, day, 1));
        isAsked(1, 7, (x, weekday) -> x.inYear(2023, 1, weekday));
        sentence = "34 recurs: of the numbers 1, 2 and so on to years";
        // Its own WEEKDAY is 6, which is not counted; those of the next YEARS are 1, 2, 3, 4, 6.
        stays(0, at("2000-01-01"), x -> x.recurs(0, 6, 0));
        stays(0, at("2000-01-01"), x -> x.recurs(0, 6, 4));
        stays(1, at("2000-01-01"), x -> x.recurs(0, 6, 5));
        stays(1, at("2000-01-01"), x -> x.recurs(0, 6, 10));
        stays(2, at("2000-01-01"), x -> x.recurs(0, 6, 11));
        stays(0, at("2000-01-01"), x -> x.recurs(0, 1, 0));
        stays(1, at("2000-01-01"), x -> x.recurs(0, 1, 1));
        stays(6, at("2000-01-01"), x -> x.recurs(0, 6, 48));
        stays(48, at("2000-02-29"), x -> recursInAllWeekdays(x, 48));
        stays(0, at("2000-02-29"), x -> recursInAllWeekdays(x, 0));
        stays(1, at("2000-02-29"), x -> x.recurs(0, 3, 1));
        isAsked(1, 7, (x, weekday) -> x.recurs(0, weekday, 1));
        isAsked(0, 48, (x, years) -> x.recurs(0, 1, years));
    }

    private static int inAllWeekdays(Calendaract x, int year, int day) {
        int sum = 0;
        for (int weekday = 1; weekday <= 7; weekday++) {
            sum += x.inYear(year, day, weekday);
        }
        return sum;
    }

    private static int recursInAllWeekdays(Calendaract x, int years) {
        int sum = 0;
        for (int weekday = 1; weekday <= 7; weekday++) {
            sum += x.recurs(0, weekday, years);
        }
        return sum;
    }

    // ---- promises 35 to 38

    private static void anniversaries() {
        ages();
        sentence = "the 29th of the MONTH 2: the EARLY and the LATE ones";
        passed("2024-02-29", "2024-02-29", 0, 365, 0, 366);
        passed("2024-02-29", "2025-02-27", 0, 1, 0, 2);
        passed("2024-02-29", "2025-02-28", 1, 365, 0, 1);
        passed("2024-02-29", "2025-03-01", 1, 364, 1, 365);
        passed("2024-02-29", "2028-02-28", 3, 1, 3, 1);
        passed("2024-02-29", "2028-02-29", 4, 365, 4, 366);
        passed("2024-02-29", "2028-03-01", 4, 364, 4, 365);
        passed("1896-02-29", "1900-02-28", 4, 365, 3, 1);
        passed("1896-02-29", "1900-03-01", 4, 364, 4, 365);
        passed("-0004-02-29", "0000-02-28", 3, 1, 3, 1);
        passed("-0004-02-29", "0000-02-29", 4, 365, 4, 366);
        passed("9996-02-29", "9999-12-31", 3, 60, 3, 60);
        sentence = "36 anniversaries, 37 toNext: not behind the other one, and behind it";
        passed("2023-02-28", "2024-02-27", 0, 1, 0, 1);
        passed("2023-02-28", "2024-02-28", 1, 366, 1, 366);
        passed("2023-03-01", "2024-02-29", 0, 1, 0, 1);
        passed("2023-03-01", "2024-03-01", 1, 365, 1, 365);
        passed("2023-12-31", "2024-01-01", 0, 365, 0, 365);
        passed("2023-12-31", "2024-12-30", 0, 1, 0, 1);
        passed("2023-12-31", "2024-12-31", 1, 365, 1, 365);
        passed("-0001-12-31", "0000-12-30", 0, 1, 0, 1);
        passed("-0001-12-31", "0000-12-31", 1, 365, 1, 365);
        refusals();
        sentence = "38 wholeMonths: if that is not ahead of it; otherwise 0 less";
        stays(0, at("2023-01-31", "2023-01-31"), x -> x.wholeMonths(0, 1));
        stays(0, at("2023-01-31"), x -> x.wholeMonths(0, 0));
        stays(0, at("2023-01-31", "2023-02-28"), x -> x.wholeMonths(0, 1));
        stays(0, at("2023-01-31", "2023-02-28"), x -> x.wholeMonths(1, 0));
        stays(239987, at(FIRST_DATE, LAST_DATE), x -> x.wholeMonths(0, 1));
        stays(-239987, at(FIRST_DATE, LAST_DATE), x -> x.wholeMonths(1, 0));
        stays(239986, at("-9999-01-02", "9999-12-01"), x -> x.wholeMonths(0, 1));
    }

    private static void ages() {
        sentence = "35 age: YEARS of the SPAN UNTIL, and the other DATE is ahead of the first one";
        stays(0, at("2023-05-20", "2024-05-19"), x -> x.age(0, 1));
        stays(1, at("2023-05-20", "2024-05-20"), x -> x.age(0, 1));
        stays(0, at("2024-02-29", "2025-02-28"), x -> x.age(0, 1));
        stays(1, at("2024-02-29", "2025-03-01"), x -> x.age(0, 1));
        stays(3, at("2024-02-29", "2028-02-28"), x -> x.age(0, 1));
        stays(4, at("2024-02-29", "2028-02-29"), x -> x.age(0, 1));
        stays(19998, at(FIRST_DATE, LAST_DATE), x -> x.age(0, 1));
        stays(0, at("2023-05-20", "2023-05-20"), x -> x.age(0, 1));
        stays(0, at("2023-05-20"), x -> x.age(0, 0));
        stays(STATE, at("2023-05-20", "2023-05-19"), x -> x.age(0, 1));
        stays(STATE, at(LAST_DATE, FIRST_DATE), x -> x.age(0, 1));
    }

    private static void passed(String date, String other, int early, int toEarly, int late,
            int toLate) {
        stays(early, at(date, other), x -> x.anniversaries(0, 1, false));
        stays(late, at(date, other), x -> x.anniversaries(0, 1, true));
        stays(toEarly, at(date, other), x -> x.toNext(0, 1, false));
        stays(toLate, at(date, other), x -> x.toNext(0, 1, true));
    }

    private static void refusals() {
        sentence = "REFUSED if the other one is ahead, or more than 40000 DAYS behind it";
        for (boolean isLate : new boolean[] {false, true}) {
            stays(0, at("2023-05-20"), x -> x.anniversaries(0, 0, isLate));
            stays(366, at("2023-05-20"), x -> x.toNext(0, 0, isLate));
            stays(0, at("2023-05-20", "2023-05-20"), x -> x.anniversaries(0, 1, isLate));
            stays(366, at("2023-05-20", "2023-05-20"), x -> x.toNext(0, 1, isLate));
            isRefused(at("2023-05-20", "2023-05-19"), x -> x.anniversaries(0, 1, isLate));
            isRefused(at("2023-05-20", "2023-05-19"), x -> x.toNext(0, 1, isLate));
            stays(109, at(0, 40000), x -> x.anniversaries(0, 1, isLate));
            stays(number(2080, 1, 1) - 40000, at(0, 40000), x -> x.toNext(0, 1, isLate));
            isRefused(at(0, 40001), x -> x.anniversaries(0, 1, isLate));
            isRefused(at(0, 40001), x -> x.toNext(0, 1, isLate));
            stays(109, at(2892896, 2932896), x -> x.anniversaries(0, 1, isLate));
            isRefused(at(2892895, 2932896), x -> x.anniversaries(0, 1, isLate));
            isRefused(at(-4371587, -4331586), x -> x.toNext(0, 1, isLate));
            isRefused(at(FIRST_DATE, LAST_DATE), x -> x.anniversaries(0, 1, isLate));
            isRefused(at(LAST_DATE, FIRST_DATE), x -> x.toNext(0, 1, isLate));
            isRefused(prepared(), x -> x.anniversaries(0, 4, isLate));
            isRefused(prepared(), x -> x.toNext(2, 3, isLate));
        }
    }

    // ---- promises 39 to 48

    private static void whatIsAsked() {
        sentence = "42 dayOfYear: how many days of its YEAR are not behind it";
        stays(1, at(FIRST_DATE), x -> x.dayOfYear(0));
        stays(365, at(LAST_DATE), x -> x.dayOfYear(0));
        stays(366, at("0000-12-31"), x -> x.dayOfYear(0));
        stays(1, at("0000-01-01"), x -> x.dayOfYear(0));
        stays(365, at("-0001-12-31"), x -> x.dayOfYear(0));
        sentence = "39 to 45: on both sides of the ends of YEARS and MONTHS";
        parts("2023-12-31", 2023, 12, 31);
        parts("2024-01-01", 2024, 1, 1);
        parts("2024-02-29", 2024, 2, 29);
        parts("2024-03-01", 2024, 3, 1);
        parts("-0001-12-31", -1, 12, 31);
        parts("0000-01-01", 0, 1, 1);
        parts(FIRST_DATE, -9999, 1, 1);
        parts(LAST_DATE, 9999, 12, 31);
        sentence = "46 text: with 0 ahead, and - ahead of all if it is below 0";
        for (String text : new String[] {"0000-01-01", "0001-09-09", "0009-10-10", "0010-11-11",
                "0099-12-30", "0100-01-31", "0999-01-01", "1000-01-01", "9999-12-31",
                "-0001-12-31", "-0009-09-09", "-0010-10-10", "-0099-01-01", "-0100-01-01",
                "-0999-01-01", "-1000-01-01", "-9999-01-01", "1970-02-09", "1970-02-10"}) {
            stays(text, at(text), x -> x.text(0));
        }
        sentence = "47 compare, 48 between: below 0, if that is ahead, and the same";
        stays(0, at("2023-05-20"), x -> x.compare(0, 0));
        stays(0, at("2023-05-20"), x -> x.between(0, 0));
        stays(0, at("2023-05-20", "2023-05-20"), x -> x.between(0, 1));
        stays(1, at("2023-05-20", "2023-05-21"), x -> x.between(0, 1));
        stays(-1, at("2023-05-20", "2023-05-19"), x -> x.between(0, 1));
        stays(7304483, at(FIRST_DATE, LAST_DATE), x -> x.between(0, 1));
        stays(-7304483, at(LAST_DATE, FIRST_DATE), x -> x.between(0, 1));
        stays(-1, at(FIRST_DATE, LAST_DATE), x -> x.compare(0, 1));
        stays(1, at(LAST_DATE, FIRST_DATE), x -> x.compare(0, 1));
    }

    private static void parts(String date, int year, int month, int day) {
        stays(year, at(date), x -> x.year(0));
        stays(month, at(date), x -> x.monthOfYear(0));
        stays(day, at(date), x -> x.day(0));
        stays(12 * year + month - 1, at(date), x -> x.month(0));
        stays((int) LocalDate.parse(date).toEpochDay(), at(date), x -> x.number(0));
    }

    // ---- promises 49 to 52

    private static void theWhole() {
        sentence = "49 house: what is 0 to 3";
        int[] due = {9, 6, 1, 1};
        for (int what = 0; what < 4; what++) {
            int w = what;
            stays(due[what], prepared(), x -> x.house(w));
            stays(what == 1 ? 1 : 0, new Calendaract(), x -> x.house(w));
        }
        for (int what : new int[] {-1, 4, LOW, HIGH}) {
            stays(ARGUMENT, prepared(), x -> x.house(what));
        }
        sentence = "49 house(1): how many unlike DATES the PLACES have";
        for (int many = 1; many <= 6; many++) {
            int[] numbers = new int[6];
            int[] backward = new int[6];
            for (int place = 0; place < 6; place++) {
                numbers[place] = Math.min(place + 1, many);
                backward[5 - place] = numbers[place];
            }
            stays(many, at(numbers), x -> x.house(1));
            stays(many, at(backward), x -> x.house(1));
        }
        counters();
        sentence = "51 isSound: whatever the DATES are";
        stays(true, new Calendaract(), x -> x.isSound());
        stays(true, prepared(), x -> x.isSound());
        stays(true, at("2023-01-28", "2023-01-29", "2023-01-30", "2023-01-31", "2023-02-01",
                "2024-01-31"), x -> x.isSound());
        stays(true, at("-0001-12-31", "0000-01-01", "0000-02-29", "0000-03-01", "1900-02-28",
                "2000-02-29"), x -> x.isSound());
        digests();
    }

    private static void counters() {
        sentence = "49 house(0): not where it throws, only asks, or is REFUSED";
        Calendaract x = prepared();
        stays(STATE, x, y -> y.shift(3, 1));
        stays(ARGUMENT, x, y -> y.days(0, 8000001));
        stays(INDEX, x, y -> y.turnSpan(3));
        stays(26, x, y -> y.ofSpan(0, 3));
        isRefused(x, y -> y.anniversaries(0, 4, false));
        stays(9, x, y -> y.house(0));
        stays(2, x, y -> y.house(2));
        sentence = "50 knock: how often one knocked, with this";
        Calendaract z = new Calendaract();
        for (int knock = 1; knock <= 380; knock++) {
            check(z.knock() == knock, "the knock " + knock);
        }
        stays(380, z, y -> y.house(3));
        stays(0, z, y -> y.house(0));
        stays(0, z, y -> y.house(2));
    }

    private static void digests() {
        sentence = "52 digest: wraps around as a 64-bit integer";
        digestIsDue(new Calendaract());
        digestIsDue(prepared());
        digestIsDue(at(FIRST_DATE, LAST_DATE, "-0001-12-31", "0000-02-29", "2024-01-31"));
        Calendaract x = prepared();
        x.turnSpan(2);
        x.knock();
        x.anniversaries(3, 2, true);
        digestIsDue(x);
    }

    /** Without a wrap-around on the way: all of the number, and its last 64 bits in the end. */
    private static void digestIsDue(Calendaract x) {
        BigInteger d = BigInteger.valueOf(7843);
        for (int what = 0; what < 4; what++) {
            d = with(d, x.house(what));
        }
        for (int place = 0; place < 6; place++) {
            int next = place == 5 ? 0 : place + 1;
            int[] values = {x.number(place), x.month(place), x.day(place), x.weekday(place),
                x.dayOfYear(place), x.lengthOfMonth(place), x.isLeapYear(place) ? 1 : 0,
                x.text(place).length(), x.loss(place, 1), x.loss(place, -1), x.gap(place, 1, 30),
                x.compare(place, next), x.wholeMonths(place, next)};
            for (int value : values) {
                d = with(d, value);
            }
        }
        for (int span = 0; span < 3; span++) {
            for (int what = 0; what < 4; what++) {
                d = with(d, x.ofSpan(span, what));
            }
        }
        d = with(d, x.isSound() ? 1 : 0);
        check(d.bitLength() > 64, "the digest does not wrap around");
        stays(d.longValue(), x, y -> y.digest());
        stays(d.longValue(), x, y -> y.digest());
    }

    private static BigInteger with(BigInteger d, int value) {
        return d.multiply(BigInteger.valueOf(31)).add(BigInteger.valueOf(value));
    }

    // ---- objects to begin with

    private static Calendaract at(String... texts) {
        int[] numbers = new int[texts.length];
        for (int place = 0; place < texts.length; place++) {
            numbers[place] = (int) LocalDate.parse(texts[place]).toEpochDay();
        }
        return at(numbers);
    }

    private static Calendaract at(int... numbers) {
        Calendaract x = new Calendaract();
        for (int place = 0; place < numbers.length; place++) {
            x.ofDay(place, numbers[place]);
        }
        return x;
    }

    private static Calendaract at() {
        return prepared();
    }

    private static Calendaract with(String date, int months, int many) {
        Calendaract x = at(date);
        x.span(0, 0, months, many);
        return x;
    }

    private static Calendaract withSpans(int[] first, int[] other) {
        Calendaract x = new Calendaract();
        x.span(0, first[0], first[1], first[2]);
        x.span(1, other[0], other[1], other[2]);
        x.span(2, 1, 2, 3);
        return x;
    }

    /** No two PLACES, SPANS and counters alike, so that none can change unseen. */
    private static Calendaract prepared() {
        Calendaract x = at("2023-01-31", "2024-02-29", FIRST_DATE, LAST_DATE, "1970-01-01",
                "2000-02-29");
        x.span(0, 1, 14, -3);
        x.span(1, 0, 1, 30);
        x.span(2, 20000, 240000, 100000);
        x.knock();
        x.anniversaries(0, 4, true);
        return x;
    }

    private static int number(int year, int month, int day) {
        return (int) LocalDate.of(year, month, day).toEpochDay();
    }

    private static int inYearOfJavaTime(int year, int day, int weekday) {
        int found = 0;
        for (int month = 1; month <= 12; month++) {
            LocalDate start = LocalDate.of(year, month, 1);
            if (day <= start.lengthOfMonth()
                    && start.withDayOfMonth(day).getDayOfWeek().getValue() == weekday) {
                found++;
            }
        }
        return found;
    }

    // ---- what is looked at

    private interface Call {
        Object on(Calendaract x);
    }

    private interface Indexed {
        Object on(Calendaract x, int argument);
    }

    /** DAY NUMBERS of 6 PLACES, 3 numbers of 3 SPANS, then what house() tells of 0, 2 and 3. */
    private static int[] stateOf(Calendaract x) {
        int[] state = new int[18];
        Set<Integer> unlike = new HashSet<>();
        for (int place = 0; place < 6; place++) {
            state[place] = x.number(place);
            unlike.add(state[place]);
        }
        for (int at = 0; at < 9; at++) {
            state[6 + at] = x.ofSpan(at / 3, at % 3);
        }
        state[15] = x.house(0);
        state[16] = x.house(2);
        state[17] = x.house(3);
        check(unlike.size() == x.house(1), "house(1) answered " + x.house(1));
        return state;
    }

    private static Object answer(Calendaract x, Call call) {
        try {
            return call.on(x);
        } catch (RuntimeException e) {
            return e.getClass();
        }
    }

    private static void answersAndLeaves(Object want, int[] due, Calendaract x, Call call) {
        Object got = answer(x, call);
        check(want.equals(got), "answered " + got + ", due is " + want);
        int[] state = stateOf(x);
        check(Arrays.equals(due, state),
                "left " + Arrays.toString(state) + ", due is " + Arrays.toString(due));
    }

    /** A call that throws or asks: the answer, and nothing has changed behind it. */
    private static void stays(Object want, Calendaract x, Call call) {
        answersAndLeaves(want, stateOf(x), x, call);
    }

    /** REFUSED is told, and nothing has changed behind it, but that it is counted. */
    private static void isRefused(Calendaract x, Call call) {
        int[] due = stateOf(x);
        due[16]++;
        answersAndLeaves(REFUSED, due, x, call);
    }

    /** One PLACE gets a DATE, and nothing else changes. */
    private static void dateBecomes(int want, int number, Calendaract x, int place, Call call) {
        int[] due = stateOf(x);
        due[place] = number;
        due[15]++;
        answersAndLeaves(want, due, x, call);
    }

    private static void dateBecomes(int want, String text, Calendaract x, int place, Call call) {
        dateBecomes(want, (int) LocalDate.parse(text).toEpochDay(), x, place, call);
        check(text.equals(x.text(place)), "left " + x.text(place) + ", due is " + text);
    }

    /** Likewise, where the answer is the DAY NUMBER then. */
    private static void numberBecomes(int number, Calendaract x, int place, Call call) {
        dateBecomes(number, number, x, place, call);
    }

    private static void numberBecomesOrStays(Object want, Calendaract x, int place, Call call) {
        if (want instanceof Integer) {
            numberBecomes((Integer) want, x, place, call);
        } else {
            stays(want, x, call);
        }
    }

    private static void spanBecomes(int want, Calendaract x, int span, int[] numbers, Call call) {
        int[] due = stateOf(x);
        due[15]++;
        System.arraycopy(numbers, 0, due, 6 + 3 * span, 3);
        answersAndLeaves(want, due, x, call);
    }

    /** Both ends of a range are answered, and what is beyond them is refused. */
    private static void isAsked(int least, int most, Indexed call) {
        for (int argument : new int[] {least, most}) {
            Calendaract x = prepared();
            int[] due = stateOf(x);
            Object got = answer(x, y -> call.on(y, argument));
            check(!(got instanceof Class), argument + " answered " + got);
            check(Arrays.equals(due, stateOf(x)), argument + " has changed something");
        }
        beyond(least, most, call);
    }

    /** One that is not refused is enough: a huge count, if not refused, would take long. */
    private static void beyond(int least, int most, Indexed call) {
        int wrongBefore = wrong;
        for (int argument : new int[] {least - 1, most + 1, LOW, HIGH}) {
            stays(ARGUMENT, prepared(), x -> call.on(x, argument));
            if (wrong > wrongBefore) {
                return;
            }
        }
    }

    private static void check(boolean isSo, String what) {
        checks++;
        if (isSo) {
            return;
        }
        wrong++;
        if (wrong <= 40) {
            System.out.println(sentence + ": " + what + linesOf(new Throwable().getStackTrace()));
        }
    }

    private static String linesOf(StackTraceElement[] trace) {
        StringBuilder lines = new StringBuilder(", lines");
        for (StackTraceElement element : trace) {
            lines.append(' ').append(element.getLineNumber());
        }
        return lines.toString();
    }
}
