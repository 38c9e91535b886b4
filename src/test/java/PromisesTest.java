import java.time.LocalDate;
import java.util.function.Supplier;

/** Each promise of the document by itself: ordinary inputs, the edges it names, wrong inputs. */
public final class PromisesTest {
    private static final int LOW = Integer.MIN_VALUE;
    private static final int HIGH = Integer.MAX_VALUE;
    private static final Class<?> PLACE = IndexOutOfBoundsException.class;
    private static final Class<?> ARGUMENT = IllegalArgumentException.class;
    private static final Class<?> STATE = IllegalStateException.class;

    private static int wrong = 0;
    private static int promise = 0;

    public static void main(String[] args) {
        newObjectAndDates();
        goingOn();
        spans();
        shifts();
        monthsAndWeekdays();
        anniversaries();
        asked();
        whole();
        if (promise != 52) {
            fail("only promises to " + promise + " were tested");
        }
        System.out.println(wrong == 0 ? "all promises hold" : wrong + " answers are not as due");
        if (wrong != 0) {
            System.exit(1);
        }
    }

    // ---- promises 1 to 8

    private static void newObjectAndDates() {
        promise1();
        promise2();
        promise3();
        promise4();
        promise5();
        promise6();
        promise7();
        promise8();
    }

    private static void promise1() {
        promise = 1;
        Calendaract x = new Calendaract();
        for (int place = 0; place < 6; place++) {
            due(0, x.number(place));
            due("1970-01-01", x.text(place));
        }
        for (int span = 0; span < 3; span++) {
            for (int what = 0; what <= 3; what++) {
                due(0, x.ofSpan(span, what));
            }
        }
        due(0, x.house(0));
        due(1, x.house(1));
        due(0, x.house(2));
        due(0, x.house(3));
        Calendaract y = new Calendaract();
        x.of(0, 2000, 1, 1);
        x.span(0, 1, 1, 1);
        due(0, y.number(0));
        due(0, y.ofSpan(0, 3));
    }

    private static void promise2() {
        promise = 2;
        Calendaract x = new Calendaract();
        for (int place = 0; place < 6; place++) {
            due(11016 + place, x.of(place, 2000, 2 + (place > 0 ? 1 : 0), place == 0 ? 29 : place));
        }
        due(11020, x.number(4));
        due(-4371587, x.of(0, -9999, 1, 1));
        due(2932896, x.of(0, 9999, 12, 31));
        due(-719528, x.of(0, 0, 1, 1));
        due(-719529, x.of(0, -1, 12, 31));
        due(-1, x.of(0, 1969, 12, 31));
        for (int year : new int[] {0, -4, -400, 4, 400, 2000, 2024, -9996, 9996}) {
            due(LocalDate.of(year, 2, 29).toEpochDay(), x.of(1, year, 2, 29));
        }
        for (int year : new int[] {-100, 100, 1900, 2023, -1, -9999, 9999, -300}) {
            thrown(STATE, x, () -> x.of(1, year, 2, 29));
        }
        for (int month : new int[] {4, 6, 9, 11}) {
            due(LocalDate.of(2023, month, 30).toEpochDay(), x.of(1, 2023, month, 30));
            thrown(STATE, x, () -> x.of(1, 2023, month, 31));
        }
        for (int month : new int[] {1, 3, 5, 7, 8, 10, 12}) {
            due(LocalDate.of(2023, month, 31).toEpochDay(), x.of(1, 2023, month, 31));
        }
        noPlace(x, place -> x.of(place, 2000, 1, 1));
        noPlace(x, place -> x.of(place, 10000, 13, 32));
        wrongArguments(x, -9999, 9999, year -> x.of(2, year, 1, 1));
        wrongArguments(x, 1, 12, month -> x.of(2, 2023, month, 1));
        wrongArguments(x, 1, 31, day -> x.of(2, 2023, 1, day));
        thrown(ARGUMENT, x, () -> x.of(0, 10000, 2, 30));
        thrown(STATE, x, () -> x.of(0, 2024, 2, 30));
    }

    private static void promise3() {
        promise = 3;
        Calendaract x = new Calendaract();
        due(4, x.ofDay(5, 0));
        due(3, x.ofDay(5, -1));
        for (int number = -20; number <= 20; number++) {
            due(LocalDate.ofEpochDay(number).getDayOfWeek().getValue(), x.ofDay(2, number));
            due(number, x.number(2));
        }
        due(1, x.ofDay(0, -4371587));
        due("-9999-01-01", x.text(0));
        due(5, x.ofDay(0, 2932896));
        due("9999-12-31", x.text(0));
        wrongArguments(x, -4371587, 2932896, number -> x.ofDay(0, number));
        noPlace(x, place -> x.ofDay(place, 0));
        noPlace(x, place -> x.ofDay(place, 2932897));
    }

    private static void promise4() {
        promise = 4;
        Calendaract x = new Calendaract();
        due(29, x.ofMonth(3, 24001, 31));
        due("2000-02-29", x.text(3));
        due(28, x.ofMonth(3, 24013, 29));
        due("2001-02-28", x.text(3));
        due(30, x.ofMonth(3, 24003, 31));
        due(15, x.ofMonth(3, 24003, 15));
        due("2000-04-15", x.text(3));
        due(31, x.ofMonth(3, -1, 31));
        due("-0001-12-31", x.text(3));
        due(1, x.ofMonth(3, -119988, 1));
        due(-4371587, x.number(3));
        due(31, x.ofMonth(3, 119999, 31));
        due(2932896, x.number(3));
        wrongArguments(x, -119988, 119999, number -> x.ofMonth(0, number, 1));
        wrongArguments(x, 1, 31, day -> x.ofMonth(0, 0, day));
        noPlace(x, place -> x.ofMonth(place, 0, 1));
        noPlace(x, place -> x.ofMonth(place, 120000, 0));
    }

    private static void promise5() {
        promise = 5;
        Calendaract x = new Calendaract();
        x.ofDay(0, 777);
        due(777, x.copy(5, 0));
        due(777, x.number(5));
        due(777, x.number(0));
        due(777, x.copy(5, 5));
        due(0, x.copy(5, 1));
        due(777, x.number(0));
        noPlace(x, place -> x.copy(place, 0));
        noPlace(x, place -> x.copy(0, place));
    }

    private static void promise6() {
        promise = 6;
        Calendaract x = new Calendaract();
        x.of(0, 2024, 2, 29);
        due(28, x.first(0));
        due("2024-02-01", x.text(0));
        due(0, x.first(0));
        x.ofDay(1, 2932896);
        due(30, x.first(1));
        due(2932866, x.number(1));
        noPlace(x, x::first);
    }

    private static void promise7() {
        promise = 7;
        Calendaract x = new Calendaract();
        x.of(0, 2024, 2, 1);
        due(28, x.last(0));
        due("2024-02-29", x.text(0));
        due(0, x.last(0));
        x.of(1, 9999, 12, 1);
        due(30, x.last(1));
        due(2932896, x.number(1));
        x.of(1, 1900, 2, 10);
        due(18, x.last(1));
        noPlace(x, x::last);
    }

    private static void promise8() {
        promise = 8;
        Calendaract x = new Calendaract();
        x.of(0, 2023, 2, 10);
        due(LocalDate.of(2023, 2, 28).toEpochDay(), x.withDay(0, 28));
        due(LocalDate.of(2023, 2, 1).toEpochDay(), x.withDay(0, 1));
        due("2023-02-01", x.text(0));
        thrown(STATE, x, () -> x.withDay(0, 29));
        thrown(STATE, x, () -> x.withDay(0, 31));
        x.of(0, 2024, 2, 10);
        due(LocalDate.of(2024, 2, 29).toEpochDay(), x.withDay(0, 29));
        due(30, x.withDay(1, 31));
        wrongArguments(x, 1, 31, day -> x.withDay(1, day));
        noPlace(x, place -> x.withDay(place, 1));
        noPlace(x, place -> x.withDay(place, 0));
    }

    // ---- promises 9 to 14

    private static void goingOn() {
        promise9();
        promise10();
        promise11();
        promise12();
        promise13();
        promise14();
    }

    private static void promise9() {
        promise = 9;
        Calendaract x = new Calendaract();
        x.of(0, 2023, 1, 31);
        due(28, x.shift(0, 1));
        due("2023-02-28", x.text(0));
        due(28, x.shift(0, -1));
        due("2023-01-28", x.text(0));
        due(28, x.shift(0, 0));
        x.of(0, 2023, 3, 31);
        due(29, x.shift(0, -37));
        due("2020-02-29", x.text(0));
        x.of(1, -9999, 1, 31);
        due(31, x.shift(1, 239987));
        due(2932896, x.number(1));
        thrown(STATE, x, () -> x.shift(1, 1));
        thrown(STATE, x, () -> x.shift(1, 240000));
        due(31, x.shift(1, -239987));
        thrown(STATE, x, () -> x.shift(1, -1));
        thrown(STATE, x, () -> x.shift(1, -240000));
        wrongArguments(x, -240000, 240000, months -> x.shift(1, months), STATE);
        noPlace(x, place -> x.shift(place, 0));
        noPlace(x, place -> x.shift(place, 240001));
    }

    private static void promise10() {
        promise = 10;
        Calendaract x = new Calendaract();
        x.of(0, 2024, 2, 29);
        due(28, x.shiftYears(0, 1));
        due("2025-02-28", x.text(0));
        due(28, x.shiftYears(0, -1));
        x.of(0, 2024, 2, 29);
        due(29, x.shiftYears(0, -2024));
        due("0000-02-29", x.text(0));
        due(28, x.shiftYears(0, -1));
        due("-0001-02-28", x.text(0));
        x.of(1, -9999, 12, 31);
        due(31, x.shiftYears(1, 19998));
        due(2932896, x.number(1));
        thrown(STATE, x, () -> x.shiftYears(1, 1));
        due(31, x.shiftYears(1, -19998));
        thrown(STATE, x, () -> x.shiftYears(1, -1));
        wrongArguments(x, -20000, 20000, years -> x.shiftYears(1, years), STATE);
        noPlace(x, place -> x.shiftYears(place, 0));
        noPlace(x, place -> x.shiftYears(place, 20001));
    }

    private static void promise11() {
        promise = 11;
        Calendaract x = new Calendaract();
        due(31, x.days(0, 31));
        due("1970-02-01", x.text(0));
        due(-1, x.days(0, -32));
        due("1969-12-31", x.text(0));
        due(-1, x.days(0, 0));
        due(2932896, x.days(0, 2932897));
        thrown(STATE, x, () -> x.days(0, 1));
        due(-4371587, x.days(0, -7304483));
        thrown(STATE, x, () -> x.days(0, -1));
        wrongArguments(x, -8000000, 8000000, many -> x.days(0, many), STATE);
        noPlace(x, place -> x.days(place, 0));
        noPlace(x, place -> x.days(place, 8000001));
    }

    private static void promise12() {
        promise = 12;
        Calendaract x = new Calendaract();
        x.of(0, 2000, 2, 29);
        due(11016 + 146097, x.cycles(0, 1));
        due("2400-02-29", x.text(0));
        due(11016 - 146097, x.cycles(0, -2));
        due(11016 - 146097, x.cycles(0, 0));
        x.of(0, -9999, 6, 1);
        due(x.number(0) + 49 * 146097, x.cycles(0, 49));
        due("9601-06-01", x.text(0));
        thrown(STATE, x, () -> x.cycles(0, 1));
        thrown(STATE, x, () -> x.cycles(0, 60));
        due("9601-06-01", x.text(0));
        x.cycles(0, -49);
        thrown(STATE, x, () -> x.cycles(0, -1));
        wrongArguments(x, -60, 60, many -> x.cycles(0, many), STATE);
        noPlace(x, place -> x.cycles(place, 0));
        noPlace(x, place -> x.cycles(place, 61));
    }

    private static void promise13() {
        promise = 13;
        Calendaract x = new Calendaract();
        x.span(1, 0, 1, 1);
        due(LocalDate.of(2023, 3, 1).toEpochDay(), acted(x, 1, false, false));
        due(LocalDate.of(2023, 3, 1).toEpochDay(), acted(x, 1, true, false));
        due(LocalDate.of(2022, 12, 30).toEpochDay(), acted(x, 1, false, true));
        due(LocalDate.of(2022, 12, 30).toEpochDay(), acted(x, 1, true, true));
        due("2022-12-30", x.text(0));
        x.span(1, 1, -11, 30);
        due(LocalDate.of(2023, 3, 30).toEpochDay(), acted(x, 1, false, false));
        due(LocalDate.of(2023, 4, 2).toEpochDay(), acted(x, 1, true, false));
        due(LocalDate.of(2022, 12, 1).toEpochDay(), acted(x, 1, false, true));
        due(LocalDate.of(2022, 12, 1).toEpochDay(), acted(x, 1, true, true));
        due(1, x.ofSpan(1, 0));
        actsBeyondTheYears(x);
        noPlace(x, place -> x.act(place, 0, false, false));
        noSpan(x, span -> x.act(0, span, false, false));
        thrown(PLACE, x, () -> x.act(-1, 3, true, true));
    }

    private static int acted(Calendaract x, int span, boolean isDaysFirst, boolean isBack) {
        x.of(0, 2023, 1, 31);
        return x.act(0, span, isDaysFirst, isBack);
    }

    private static void actsBeyondTheYears(Calendaract x) {
        x.of(2, 9999, 12, 15);
        x.span(2, 0, 1, -31);
        due(LocalDate.of(9999, 12, 15).toEpochDay(), x.act(2, 2, false, false));
        x.span(2, 0, -1, 31);
        due(LocalDate.of(9999, 12, 15).toEpochDay(), x.act(2, 2, true, false));
        x.span(2, 20000, 0, 0);
        thrown(STATE, x, () -> x.act(2, 2, false, false));
        x.span(2, 0, 0, 17);
        thrown(STATE, x, () -> x.act(2, 2, true, false));
        x.of(2, -9999, 1, 1);
        x.span(2, 0, 0, 1);
        thrown(STATE, x, () -> x.act(2, 2, true, true));
        thrown(STATE, x, () -> x.act(2, 2, false, true));
        x.span(2, 20000, 240000, 100000);
        thrown(STATE, x, () -> x.act(2, 2, false, false));
        thrown(STATE, x, () -> x.act(2, 2, true, true));
    }

    private static void promise14() {
        promise = 14;
        Calendaract x = new Calendaract();
        x.of(0, 2023, 1, 31);
        x.span(0, 0, 1, 1);
        LocalDate there = LocalDate.of(2023, 1, 31);
        for (int times = 0; times < 24; times++) {
            there = there.plusMonths(1).plusDays(1);
        }
        due(there.toEpochDay(), x.actOften(0, 0, 24));
        due(there.toEpochDay(), x.actOften(0, 0, 0));
        due(there.plusMonths(1).plusDays(1).toEpochDay(), x.actOften(0, 0, 1));
        due(there.plusMonths(1).plusDays(1).toEpochDay(), x.number(0));
        x.span(1, 20000, 240000, 100000);
        thrown(STATE, x, () -> x.actOften(0, 1, 24));
        x.turnSpan(1);
        thrown(STATE, x, () -> x.actOften(0, 1, 24));
        due(x.number(0), x.actOften(0, 1, 0));
        x.of(3, 9999, 12, 31);
        x.span(1, 0, 1, -31);
        due(actedOften(LocalDate.of(9999, 12, 31), 1, -31, 24), x.actOften(3, 1, 24));
        wrongArguments(x, 0, 24, times -> x.actOften(0, 0, times));
        noPlace(x, place -> x.actOften(place, 0, 25));
        noSpan(x, span -> x.actOften(0, span, 25));
    }

    private static long actedOften(LocalDate from, int months, int days, int times) {
        LocalDate there = from;
        for (int done = 0; done < times; done++) {
            there = there.plusMonths(months).plusDays(days);
        }
        return there.toEpochDay();
    }

    // ---- promises 15 to 19

    private static void spans() {
        promise15();
        promise16();
        promise17();
        promise18();
        promise19();
    }

    private static void promise15() {
        promise = 15;
        Calendaract x = new Calendaract();
        due(26, x.span(2, 1, 14, -3));
        dueSpan(x, 2, 1, 14, -3);
        dueSpan(x, 1, 0, 0, 0);
        due(-26, x.span(1, -1, -14, 3));
        due(480000, x.span(0, 20000, 240000, 100000));
        due(-480000, x.span(0, -20000, -240000, -100000));
        dueSpan(x, 0, -20000, -240000, -100000);
        due(0, x.span(0, 1, -12, 0));
        dueSpan(x, 0, 1, -12, 0);
        wrongArguments(x, -20000, 20000, years -> x.span(0, years, 0, 0));
        wrongArguments(x, -240000, 240000, months -> x.span(0, 0, months, 0));
        wrongArguments(x, -100000, 100000, days -> x.span(0, 0, 0, days));
        noSpan(x, span -> x.span(span, 0, 0, 0));
        noSpan(x, span -> x.span(span, 20001, 0, 0));
    }

    private static void promise16() {
        promise = 16;
        Calendaract x = new Calendaract();
        dueUntil(x, LocalDate.of(2023, 1, 31), LocalDate.of(2023, 3, 1), 0, 1, 1);
        dueUntil(x, LocalDate.of(2023, 1, 31), LocalDate.of(2023, 2, 28), 0, 0, 28);
        dueUntil(x, LocalDate.of(2024, 2, 29), LocalDate.of(2025, 2, 28), 0, 11, 30);
        dueUntil(x, LocalDate.of(2024, 2, 29), LocalDate.of(2025, 3, 1), 1, 0, 1);
        dueUntil(x, LocalDate.of(2023, 5, 20), LocalDate.of(2023, 5, 20), 0, 0, 0);
        dueUntil(x, LocalDate.of(2023, 5, 20), LocalDate.of(2023, 5, 21), 0, 0, 1);
        dueUntil(x, LocalDate.of(2020, 12, 15), LocalDate.of(2023, 2, 14), 2, 1, 30);
        dueUntil(x, LocalDate.of(2020, 12, 15), LocalDate.of(2023, 2, 15), 2, 2, 0);
        dueUntil(x, LocalDate.of(-9999, 1, 1), LocalDate.of(9999, 12, 31), 19998, 11, 30);
        due(0, x.until(2, 3, 3));
        dueSpan(x, 2, 0, 0, 0);
        x.ofDay(0, 5);
        x.ofDay(1, 4);
        thrown(STATE, x, () -> x.until(0, 0, 1));
        noSpan(x, span -> x.until(span, 0, 0));
        noPlace(x, place -> x.until(0, place, 0));
        noPlace(x, place -> x.until(0, 0, place));
        thrown(PLACE, x, () -> x.until(3, 0, 1));
    }

    private static void dueUntil(Calendaract x, LocalDate from, LocalDate to,
            int years, int months, int days) {
        x.ofDay(4, (int) from.toEpochDay());
        x.ofDay(5, (int) to.toEpochDay());
        due(days, x.until(1, 4, 5));
        dueSpan(x, 1, years, months, days);
        due(from.toEpochDay(), x.number(4));
        due(to.toEpochDay(), x.act(4, 1, false, false));
    }

    private static void promise17() {
        promise = 17;
        Calendaract x = new Calendaract();
        x.span(0, 1, 2, 3);
        x.span(1, 10, -20, 30);
        due(33, x.addSpan(0, 1));
        dueSpan(x, 0, 11, -18, 33);
        dueSpan(x, 1, 10, -20, 30);
        due(66, x.addSpan(0, 0));
        dueSpan(x, 0, 22, -36, 66);
        x.span(2, 19978, 0, 0);
        due(66, x.addSpan(0, 2));
        x.span(2, 1, 0, 0);
        thrown(STATE, x, () -> x.addSpan(0, 2));
        x.span(0, 0, 240000, 0);
        x.span(2, 0, 1, 0);
        thrown(STATE, x, () -> x.addSpan(0, 2));
        x.span(0, 0, -239999, 100000);
        x.span(2, 0, -1, 0);
        due(100000, x.addSpan(0, 2));
        thrown(STATE, x, () -> x.addSpan(0, 2));
        x.span(2, 0, 0, 1);
        thrown(STATE, x, () -> x.addSpan(0, 2));
        x.span(0, -20000, 0, -100000);
        thrown(STATE, x, () -> x.addSpan(0, 0));
        x.span(2, 0, 0, -1);
        thrown(STATE, x, () -> x.addSpan(0, 2));
        x.span(2, -1, 0, 0);
        thrown(STATE, x, () -> x.addSpan(0, 2));
        noSpan(x, span -> x.addSpan(span, 0));
        noSpan(x, span -> x.addSpan(0, span));
    }

    private static void promise18() {
        promise = 18;
        Calendaract x = new Calendaract();
        x.span(1, 2, -3, 4);
        due(-21, x.turnSpan(1));
        dueSpan(x, 1, -2, 3, -4);
        due(21, x.turnSpan(1));
        x.span(1, 20000, 240000, 100000);
        due(-480000, x.turnSpan(1));
        due(0, x.turnSpan(0));
        noSpan(x, x::turnSpan);
    }

    private static void promise19() {
        promise = 19;
        Calendaract x = new Calendaract();
        x.span(2, 7, -5, 3);
        due(7, x.ofSpan(2, 0));
        due(-5, x.ofSpan(2, 1));
        due(3, x.ofSpan(2, 2));
        due(79, x.ofSpan(2, 3));
        wrongArguments(x, 0, 3, what -> x.ofSpan(2, what));
        noSpan(x, span -> x.ofSpan(span, 0));
        noSpan(x, span -> x.ofSpan(span, 4));
    }

    // ---- promises 20 to 27

    private static void shifts() {
        promise20to22();
        promise23();
        promise24();
        promise25();
        promise26();
        promise27();
    }

    private static void promise20to22() {
        promise = 20;
        Calendaract x = new Calendaract();
        LocalDate date = LocalDate.of(2023, 12, 31);
        x.ofDay(0, (int) date.toEpochDay());
        for (int months : new int[] {-240000, -22, -13, -1, 0, 1, 2, 3, 4, 14, 26, 240000}) {
            int loss = 31 - date.plusMonths(months).getDayOfMonth();
            promise = 20;
            due(loss == 0, x.isKept(0, months));
            promise = 21;
            due(loss, x.loss(0, months));
            promise = 22;
            due(loss == 0, x.leadsBack(0, months));
        }
        due(date.toEpochDay(), x.number(0));
        promise = 20;
        due(true, x.isKept(1, 1));
        x.of(2, 2024, 2, 29);
        due(false, x.isKept(2, 12));
        due(true, x.isKept(2, 48));
        noPlace(x, place -> x.isKept(place, 240001));
        wrongArguments(x, -240000, 240000, months -> x.isKept(0, months));
        promise = 21;
        due(1, x.loss(2, 12));
        due(0, x.loss(2, -1));
        noPlace(x, place -> x.loss(place, 240001));
        wrongArguments(x, -240000, 240000, months -> x.loss(0, months));
        promise = 22;
        due(false, x.leadsBack(2, -12));
        due(true, x.leadsBack(2, 1));
        noPlace(x, place -> x.leadsBack(place, 240001));
        wrongArguments(x, -240000, 240000, months -> x.leadsBack(0, months));
    }

    private static void promise23() {
        promise = 23;
        Calendaract x = new Calendaract();
        x.of(0, 2023, 1, 31);
        due(3, x.twice(0, 1, 1));
        due(3, x.twice(0, 1, -1));
        due(0, x.twice(0, 2, -1));
        due(2, x.twice(0, 13, 1));
        due(1, x.twice(0, 3, 1));
        due(0, x.twice(0, 240000, 240000));
        due(0, x.twice(0, -240000, -240000));
        due(19388, x.number(0));
        wrongArguments(x, -240000, 240000, months -> x.twice(0, months, 0));
        wrongArguments(x, -240000, 240000, more -> x.twice(0, 0, more));
        noPlace(x, place -> x.twice(place, 240001, 0));
    }

    private static void promise24() {
        promise = 24;
        Calendaract x = new Calendaract();
        LocalDate date = LocalDate.of(2023, 1, 31);
        x.ofDay(0, (int) date.toEpochDay());
        for (int months = -5; months <= 5; months++) {
            for (int days = -40; days <= 40; days += 10) {
                due(date.plusDays(days).plusMonths(months).toEpochDay()
                        - date.plusMonths(months).plusDays(days).toEpochDay(),
                        x.gap(0, months, days));
            }
        }
        x.of(2, 2023, 1, 1);
        due(-3, x.gap(2, 1, 31));
        due(3, x.gap(0, 1, 30));
        due(0, x.gap(0, 1, 28));
        x.ofDay(1, 2932896);
        LocalDate end = LocalDate.of(9999, 12, 31);
        due(end.plusDays(100000).plusMonths(239999).toEpochDay()
                - end.plusMonths(239999).plusDays(100000).toEpochDay(), x.gap(1, 239999, 100000));
        wrongArguments(x, -240000, 240000, months -> x.gap(0, months, 0));
        wrongArguments(x, -100000, 100000, days -> x.gap(0, 0, days));
        noPlace(x, place -> x.gap(place, 240001, 0));
    }

    private static void promise25() {
        promise = 25;
        Calendaract x = new Calendaract();
        x.of(0, 2024, 3, 31);
        due(31, x.lowest(0, 1, 0));
        due(30, x.lowest(0, 1, 1));
        due(30, x.lowest(0, 1, 10));
        due(28, x.lowest(0, 1, 11));
        due(28, x.lowest(0, 1, 48));
        due(29, x.lowest(0, -1, 1));
        due(28, x.lowest(0, -1, 48));
        due(31, x.lowest(0, 12, 48));
        due(31, x.lowest(0, 0, 48));
        x.ofDay(1, 2932896);
        due(31, x.lowest(1, 1200, 48));
        due(31, x.lowest(1, -1200, 48));
        due("2024-03-31", x.text(0));
        wrongArguments(x, -1200, 1200, months -> x.lowest(0, months, 1));
        wrongArguments(x, 0, 48, times -> x.lowest(0, 1, times));
        noPlace(x, place -> x.lowest(place, 1201, 1));
    }

    private static void promise26() {
        promise = 26;
        Calendaract x = new Calendaract();
        x.of(0, 2023, 3, 31);
        due("31", x.met(0, 1, 0));
        due("31 30", x.met(0, 1, 1));
        due("31 30 29", x.met(0, 1, 11));
        due("31 30 29 28", x.met(0, 1, 48));
        due("31 28", x.met(0, -1, 48));
        due("31", x.met(0, 12, 48));
        due("1", x.met(1, 1, 48));
        x.of(2, 2000, 2, 29);
        due("29", x.met(2, 48, 24));
        due("29 28", x.met(2, 48, 25));
        due("29 28", x.met(2, -1200, 1));
        due("2023-03-31", x.text(0));
        wrongArguments(x, -1200, 1200, months -> x.met(0, months, 1));
        wrongArguments(x, 0, 48, times -> x.met(0, 1, times));
        noPlace(x, place -> x.met(place, 1201, 1));
    }

    private static void promise27() {
        promise = 27;
        Calendaract x = new Calendaract();
        x.of(0, 2023, 1, 31);
        due(1, x.keeps(0, 1));
        due(4, x.keeps(0, 2));
        due(2, x.keeps(0, -1));
        due(-1, x.keeps(0, 12));
        due(-1, x.keeps(0, 0));
        due(-1, x.keeps(1, 1));
        x.of(2, 1904, 2, 29);
        due(-1, x.keeps(2, 48));
        x.of(2, 1912, 2, 29);
        due(47, x.keeps(2, 48));
        x.of(2, 1908, 2, 29);
        due(48, x.keeps(2, 48));
        // The first YEAR on this way that is none with a 29th is 10100, beyond the YEARS.
        x.of(2, 9992, 2, 29);
        due(27, x.keeps(2, 48));
        wrongArguments(x, -1200, 1200, months -> x.keeps(0, months));
        noPlace(x, place -> x.keeps(place, 1201));
    }

    // ---- promises 28 to 34

    private static void monthsAndWeekdays() {
        promise28();
        promise29();
        promise30();
        promise31();
        promise32();
        promise33();
        promise34();
    }

    private static void promise28() {
        promise = 28;
        Calendaract x = new Calendaract();
        due(23640, x.month(0));
        x.of(1, 0, 1, 1);
        due(0, x.month(1));
        x.of(1, -1, 12, 31);
        due(-1, x.month(1));
        x.ofDay(1, -4371587);
        due(-119988, x.month(1));
        x.ofDay(1, 2932896);
        due(119999, x.month(1));
        noPlace(x, x::month);
    }

    private static void promise29() {
        promise = 29;
        Calendaract x = new Calendaract();
        for (int number : new int[] {-119988, -14, -13, -12, -1, 0, 1, 11, 12, 13, 22801, 23640,
                24001, 24287, 24290, 119999}) {
            LocalDate start = LocalDate.of(Math.floorDiv(number, 12),
                    Math.floorMod(number, 12) + 1, 1);
            due(start.getYear(), x.ofMonthNumber(number, 0));
            due(start.getMonthValue(), x.ofMonthNumber(number, 1));
            due(start.lengthOfMonth(), x.ofMonthNumber(number, 2));
            due(start.toEpochDay(), x.ofMonthNumber(number, 3));
        }
        wrongArguments(x, -119988, 119999, number -> x.ofMonthNumber(number, 0));
        wrongArguments(x, 0, 3, what -> x.ofMonthNumber(0, what));
    }

    private static void promise30() {
        promise = 30;
        Calendaract x = new Calendaract();
        due(0, x.lengths(24001, 0));
        due(29, x.lengths(24001, 1));
        due(60, x.lengths(24001, 2));
        due(366, x.lengths(24000, 12));
        due(1460, x.lengths(1897 * 12, 48));
        due(1461, x.lengths(12, 48));
        due(1461, x.lengths(119999, 48));
        due(31, x.lengths(119999, 1));
        due(31 + 28, x.lengths(-119988, 2));
        wrongArguments(x, -119988, 119999, number -> x.lengths(number, 1));
        wrongArguments(x, 0, 48, many -> x.lengths(0, many));
    }

    private static void promise31() {
        promise = 31;
        Calendaract x = new Calendaract();
        due(4, x.weekday(0));
        for (int number : new int[] {-4371587, -719528, -8, -7, -4, -3, 1, 2, 3, 4, 5, 2932896}) {
            x.ofDay(1, number);
            due(LocalDate.ofEpochDay(number).getDayOfWeek().getValue(), x.weekday(1));
        }
        noPlace(x, x::weekday);
    }

    private static void promise32() {
        promise = 32;
        Calendaract x = new Calendaract();
        for (int number : new int[] {-119988, 24000, 24001, 24013, 119999}) {
            int length = x.ofMonthNumber(number, 2);
            LocalDate start = LocalDate.ofEpochDay(x.ofMonthNumber(number, 3));
            int[] seen = new int[8];
            for (int day = 1; day <= length; day++) {
                int weekday = start.plusDays(day - 1).getDayOfWeek().getValue();
                seen[weekday]++;
                due(day, x.nth(number, weekday, seen[weekday]));
            }
            for (int weekday = 1; weekday <= 7; weekday++) {
                if (seen[weekday] < 5) {
                    due(-1, x.nth(number, weekday, 5));
                }
            }
        }
        wrongArguments(x, -119988, 119999, number -> x.nth(number, 1, 1));
        wrongArguments(x, 1, 7, weekday -> x.nth(0, weekday, 1));
        wrongArguments(x, 1, 5, which -> x.nth(0, 1, which));
    }

    private static void promise33() {
        promise = 33;
        Calendaract x = new Calendaract();
        due(2, x.inYear(2023, 13, 5));
        due(2, x.inYear(2024, 29, 4));
        for (int year : new int[] {-9999, 0, 2023, 2024, 9999}) {
            for (int day = 28; day <= 31; day++) {
                for (int weekday = 1; weekday <= 7; weekday++) {
                    due(monthsWith(year, day, weekday), x.inYear(year, day, weekday));
                }
            }
        }
        wrongArguments(x, -9999, 9999, year -> x.inYear(year, 1, 1));
        wrongArguments(x, 1, 31, day -> x.inYear(0, day, 1));
        wrongArguments(x, 1, 7, weekday -> x.inYear(0, 1, weekday));
    }

    private static int monthsWith(int year, int day, int weekday) {
        int found = 0;
        for (int month = 1; month <= 12; month++) {
            LocalDate start = LocalDate.of(year, month, 1);
            if (day <= start.lengthOfMonth()
                    && start.withDayOfMonth(day).getDayOfWeek().getValue() == weekday) {
                found++;
            }
        }
        return found;
    }

    private static void promise34() {
        promise = 34;
        Calendaract x = new Calendaract();
        for (LocalDate date : new LocalDate[] {LocalDate.of(2000, 2, 29), LocalDate.of(2023, 5, 7),
                LocalDate.of(9999, 12, 31), LocalDate.of(-9999, 1, 1)}) {
            x.ofDay(3, (int) date.toEpochDay());
            for (int weekday = 1; weekday <= 7; weekday++) {
                for (int years : new int[] {0, 1, 6, 48}) {
                    due(yearsWith(date, weekday, years), x.recurs(3, weekday, years));
                }
            }
        }
        wrongArguments(x, 1, 7, weekday -> x.recurs(3, weekday, 1));
        wrongArguments(x, 0, 48, years -> x.recurs(3, 1, years));
        noPlace(x, place -> x.recurs(place, 8, 1));
    }

    private static int yearsWith(LocalDate date, int weekday, int years) {
        int found = 0;
        for (int later = 1; later <= years; later++) {
            if (date.plusYears(later).getDayOfWeek().getValue() == weekday) {
                found++;
            }
        }
        return found;
    }

    // ---- promises 35 to 38

    private static void anniversaries() {
        promise35();
        promise36and37();
        promise38();
    }

    private static void promise35() {
        promise = 35;
        Calendaract x = new Calendaract();
        x.of(0, 2000, 2, 29);
        x.of(1, 2001, 2, 28);
        due(0, x.age(0, 1));
        x.of(1, 2001, 3, 1);
        due(1, x.age(0, 1));
        x.of(1, 2004, 2, 28);
        due(3, x.age(0, 1));
        x.of(1, 2004, 2, 29);
        due(4, x.age(0, 1));
        due(0, x.age(1, 1));
        x.ofDay(2, -4371587);
        x.ofDay(3, 2932896);
        due(19998, x.age(2, 3));
        thrown(STATE, x, () -> x.age(1, 0));
        x.of(1, 2000, 2, 28);
        thrown(STATE, x, () -> x.age(0, 1));
        noPlace(x, place -> x.age(place, 0));
        noPlace(x, place -> x.age(0, place));
    }

    private static void promise36and37() {
        promise = 36;
        Calendaract x = new Calendaract();
        x.of(0, 2000, 2, 29);
        dueAnniversaries(x, LocalDate.of(2000, 2, 29), 0, 365, 0, 366);
        dueAnniversaries(x, LocalDate.of(2001, 2, 27), 0, 1, 0, 2);
        dueAnniversaries(x, LocalDate.of(2001, 2, 28), 1, 365, 0, 1);
        dueAnniversaries(x, LocalDate.of(2001, 3, 1), 1, 364, 1, 365);
        dueAnniversaries(x, LocalDate.of(2004, 2, 28), 3, 1, 3, 1);
        dueAnniversaries(x, LocalDate.of(2004, 2, 29), 4, 365, 4, 366);
        dueAnniversaries(x, LocalDate.of(2004, 12, 31), 4, 59, 4, 60);
        dueAnniversaries(x, LocalDate.of(2100, 2, 28), 100, 365, 99, 1);
        x.of(0, 2000, 5, 31);
        dueAnniversaries(x, LocalDate.of(2003, 5, 30), 2, 1, 2, 1);
        dueAnniversaries(x, LocalDate.of(2003, 5, 31), 3, 366, 3, 366);
        x.ofDay(0, 2932896);
        dueAnniversaries(x, LocalDate.of(9999, 12, 31), 0, 366, 0, 366);
        promise = 36;
        x.ofDay(0, 0);
        x.ofDay(1, 40000);
        due(109, x.anniversaries(0, 1, true));
        due(0, x.house(2));
        x.ofDay(1, 40001);
        due(-9, x.anniversaries(0, 1, true));
        due(1, x.house(2));
        x.ofDay(1, -1);
        due(-9, x.anniversaries(0, 1, false));
        due(2, x.house(2));
        noPlace(x, place -> x.anniversaries(place, 0, true));
        noPlace(x, place -> x.anniversaries(0, place, false));
        promise = 37;
        due(-9, x.toNext(0, 1, false));
        due(3, x.house(2));
        x.ofDay(1, 40001);
        due(-9, x.toNext(0, 1, true));
        due(4, x.house(2));
        x.ofDay(1, 40000);
        due(LocalDate.of(2080, 1, 1).toEpochDay() - 40000, x.toNext(0, 1, true));
        due(4, x.house(2));
        due(40000, x.number(1));
        noPlace(x, place -> x.toNext(place, 0, true));
        noPlace(x, place -> x.toNext(0, place, false));
    }

    private static void dueAnniversaries(Calendaract x, LocalDate other,
            int early, int toEarly, int late, int toLate) {
        x.ofDay(1, (int) other.toEpochDay());
        promise = 36;
        due(early, x.anniversaries(0, 1, false));
        due(late, x.anniversaries(0, 1, true));
        promise = 37;
        due(toEarly, x.toNext(0, 1, false));
        due(toLate, x.toNext(0, 1, true));
    }

    private static void promise38() {
        promise = 38;
        Calendaract x = new Calendaract();
        x.of(0, 2023, 1, 31);
        x.of(1, 2023, 2, 28);
        due(0, x.wholeMonths(0, 1));
        due(0, x.wholeMonths(1, 0));
        x.of(1, 2023, 3, 1);
        due(1, x.wholeMonths(0, 1));
        due(-1, x.wholeMonths(1, 0));
        x.of(1, 2023, 3, 31);
        due(2, x.wholeMonths(0, 1));
        due(-2, x.wholeMonths(1, 0));
        due(0, x.wholeMonths(1, 1));
        x.ofDay(2, -4371587);
        x.ofDay(3, 2932896);
        due(239987, x.wholeMonths(2, 3));
        due(-239987, x.wholeMonths(3, 2));
        noPlace(x, place -> x.wholeMonths(place, 0));
        noPlace(x, place -> x.wholeMonths(0, place));
    }

    // ---- promises 39 to 48

    private static void asked() {
        partsOfDates();
        promise46();
        promise47();
        promise48();
    }

    private static void partsOfDates() {
        Calendaract x = new Calendaract();
        for (LocalDate date : new LocalDate[] {LocalDate.of(1970, 1, 1), LocalDate.of(2000, 2, 29),
                LocalDate.of(2000, 12, 31), LocalDate.of(1900, 3, 1), LocalDate.of(1900, 2, 28),
                LocalDate.of(0, 1, 1), LocalDate.of(-1, 12, 31), LocalDate.of(-4, 2, 29),
                LocalDate.of(-9999, 1, 1), LocalDate.of(9999, 12, 31), LocalDate.of(2023, 4, 30)}) {
            x.ofDay(3, (int) date.toEpochDay());
            promise = 39;
            due(date.getYear(), x.year(3));
            promise = 40;
            due(date.getMonthValue(), x.monthOfYear(3));
            promise = 41;
            due(date.getDayOfMonth(), x.day(3));
            promise = 42;
            due(date.getDayOfYear(), x.dayOfYear(3));
            promise = 43;
            due(date.toEpochDay(), x.number(3));
            promise = 44;
            due(date.lengthOfMonth(), x.lengthOfMonth(3));
            promise = 45;
            due(date.isLeapYear(), x.isLeapYear(3));
        }
        promise = 39;
        noPlace(x, x::year);
        promise = 40;
        noPlace(x, x::monthOfYear);
        promise = 41;
        noPlace(x, x::day);
        promise = 42;
        noPlace(x, x::dayOfYear);
        promise = 43;
        noPlace(x, x::number);
        promise = 44;
        noPlace(x, x::lengthOfMonth);
        promise = 45;
        noPlace(x, x::isLeapYear);
        everyDayOfARound();
    }

    /** One round of 400 YEARS behind the first year and one ahead of the last one, day by day. */
    private static void everyDayOfARound() {
        promise = 39;
        for (int from : new int[] {-4371587, 2932896 - 146097}) {
            LocalDate date = LocalDate.ofEpochDay(from);
            Calendaract x = new Calendaract();
            for (int number = from; number <= from + 146097; number++) {
                if (number % 32 == 0) {
                    x = new Calendaract();
                }
                x.ofDay(0, number);
                due(date.getYear(), x.year(0));
                due(date.getMonthValue(), x.monthOfYear(0));
                due(date.getDayOfMonth(), x.day(0));
                due(number, x.of(1, date.getYear(), date.getMonthValue(), date.getDayOfMonth()));
                date = date.plusDays(1);
            }
        }
    }

    private static void promise46() {
        promise = 46;
        Calendaract x = new Calendaract();
        due("1970-01-01", x.text(0));
        x.of(1, 7, 3, 9);
        due("0007-03-09", x.text(1));
        x.of(1, -7, 10, 31);
        due("-0007-10-31", x.text(1));
        x.of(1, 0, 12, 10);
        due("0000-12-10", x.text(1));
        x.of(1, 45, 9, 11);
        due("0045-09-11", x.text(1));
        x.of(1, 999, 11, 9);
        due("0999-11-09", x.text(1));
        x.of(1, -9999, 1, 1);
        due("-9999-01-01", x.text(1));
        x.of(1, 9999, 12, 31);
        due("9999-12-31", x.text(1));
        x.of(1, -1005, 12, 31);
        due("-1005-12-31", x.text(1));
        noPlace(x, x::text);
    }

    private static void promise47() {
        promise = 47;
        Calendaract x = new Calendaract();
        x.ofDay(0, 2932896);
        x.ofDay(1, -4371587);
        due(1, x.compare(0, 1));
        due(-1, x.compare(1, 0));
        due(0, x.compare(1, 1));
        x.ofDay(1, 2932896);
        due(0, x.compare(0, 1));
        x.ofDay(1, 2932895);
        due(1, x.compare(0, 1));
        noPlace(x, place -> x.compare(place, 0));
        noPlace(x, place -> x.compare(0, place));
    }

    private static void promise48() {
        promise = 48;
        Calendaract x = new Calendaract();
        x.ofDay(0, 2932896);
        x.ofDay(1, -4371587);
        due(-7304483, x.between(0, 1));
        due(7304483, x.between(1, 0));
        due(0, x.between(1, 1));
        noPlace(x, place -> x.between(place, 0));
        noPlace(x, place -> x.between(0, place));
    }

    // ---- promises 49 to 52

    private static void whole() {
        promise49();
        promise50();
        promise51();
        promise52();
    }

    private static void promise49() {
        promise = 49;
        Calendaract x = new Calendaract();
        x.of(0, 2000, 1, 31);
        x.ofDay(1, 5);
        x.ofMonth(2, 0, 1);
        x.copy(3, 3);
        x.first(0);
        x.last(0);
        x.withDay(0, 3);
        due(7, x.house(0));
        x.shift(0, 0);
        x.shiftYears(0, 0);
        x.days(0, 0);
        x.cycles(0, 0);
        x.act(0, 0, false, false);
        x.actOften(0, 0, 0);
        due(13, x.house(0));
        x.span(0, 0, 0, 0);
        x.until(0, 0, 0);
        x.addSpan(0, 0);
        x.turnSpan(0);
        due(17, x.house(0));
        asksThatTellNothing(x);
        due(17, x.house(0));
        due(4, x.house(1));
        x.ofDay(3, 5);
        x.ofDay(4, 5);
        x.ofDay(5, 5);
        due(3, x.house(1));
        for (int place = 0; place < 6; place++) {
            x.ofDay(place, place);
        }
        due(6, x.house(1));
        due(26, x.house(0));
        due(0, x.house(2));
        due(0, x.house(3));
        wrongArguments(x, 0, 3, x::house);
    }

    private static void asksThatTellNothing(Calendaract x) {
        x.ofSpan(0, 0);
        x.isKept(0, 1);
        x.loss(0, 1);
        x.leadsBack(0, 1);
        x.twice(0, 1, 1);
        x.gap(0, 1, 1);
        x.lowest(0, 1, 1);
        x.met(0, 1, 1);
        x.keeps(0, 1);
        x.month(0);
        x.ofMonthNumber(0, 0);
        x.lengths(0, 1);
        x.weekday(0);
        x.nth(0, 1, 1);
        x.inYear(0, 1, 1);
        x.recurs(0, 1, 1);
        x.age(0, 0);
        x.anniversaries(0, 0, true);
        x.toNext(0, 0, true);
        x.wholeMonths(0, 0);
        x.text(0);
        x.compare(0, 0);
        x.between(0, 0);
        x.isSound();
        x.digest();
    }

    private static void promise50() {
        promise = 50;
        Calendaract x = new Calendaract();
        for (int knock = 1; knock <= 20; knock++) {
            due(knock, x.knock());
        }
        due(20, x.house(3));
        due(0, x.house(0));
        due(1, new Calendaract().knock());
    }

    private static void promise51() {
        promise = 51;
        Calendaract x = new Calendaract();
        due(true, x.isSound());
        int[] numbers = {-4371587, 2932896, 11016, 11017, 19388, 19723};
        for (int place = 0; place < 6; place++) {
            x.ofDay(place, numbers[place]);
            due(true, x.isSound());
        }
        for (int step = 0; step < 60; step++) {
            x.days(step % 2 + 2, step);
            due(true, x.isSound());
        }
    }

    private static void promise52() {
        promise = 52;
        Calendaract x = new Calendaract();
        due(digestOf(x), x.digest());
        x.of(0, -44, 3, 31);
        x.of(2, 2024, 2, 29);
        x.of(5, 9999, 12, 31);
        x.span(0, 1, 2, 3);
        x.span(2, -4, 5, -6);
        x.knock();
        x.anniversaries(2, 0, false);
        due(digestOf(x), x.digest());
        due(digestOf(x), x.digest());
    }

    private static long digestOf(Calendaract x) {
        long d = 7843;
        for (int what = 0; what < 4; what++) {
            d = d * 31 + x.house(what);
        }
        for (int place = 0; place < 6; place++) {
            int next = (place + 1) % 6;
            long[] values = {x.number(place), x.month(place), x.day(place), x.weekday(place),
                x.dayOfYear(place), x.lengthOfMonth(place), x.isLeapYear(place) ? 1 : 0,
                x.text(place).length(), x.loss(place, 1), x.loss(place, -1),
                x.gap(place, 1, 30), x.compare(place, next), x.wholeMonths(place, next)};
            for (long value : values) {
                d = d * 31 + value;
            }
        }
        for (int span = 0; span < 3; span++) {
            for (int what = 0; what < 4; what++) {
                d = d * 31 + x.ofSpan(span, what);
            }
        }
        return d * 31 + (x.isSound() ? 1 : 0);
    }

    // ---- how the tests tell

    private interface Call {
        Object on(int argument);
    }

    private static void dueSpan(Calendaract x, int span, int years, int months, int days) {
        due(years, x.ofSpan(span, 0));
        due(months, x.ofSpan(span, 1));
        due(days, x.ofSpan(span, 2));
        due(12 * years + months, x.ofSpan(span, 3));
    }

    private static void due(long want, long got) {
        if (want != got) {
            fail("answered " + got + ", due is " + want);
        }
    }

    private static void due(boolean want, boolean got) {
        due(want ? 1 : 0, got ? 1 : 0);
    }

    private static void due(String want, String got) {
        if (!want.equals(got)) {
            fail("answered " + got + ", due is " + want);
        }
    }

    private static void noPlace(Calendaract x, Call call) {
        for (int place : new int[] {-1, 6, LOW, HIGH}) {
            thrown(PLACE, x, () -> call.on(place));
        }
    }

    private static void noSpan(Calendaract x, Call call) {
        for (int span : new int[] {-1, 3, LOW, HIGH}) {
            thrown(PLACE, x, () -> call.on(span));
        }
    }

    /** Both ends of a range do, one beyond them does not. */
    private static void wrongArguments(Calendaract x, int least, int most, Call call) {
        call.on(least);
        call.on(most);
        beyond(x, least, most, call);
    }

    /** Likewise, where both ends of the range are refused for another reason. */
    private static void wrongArguments(Calendaract x, int least, int most, Call call,
            Class<?> atTheEnds) {
        thrown(atTheEnds, x, () -> call.on(least));
        thrown(atTheEnds, x, () -> call.on(most));
        beyond(x, least, most, call);
    }

    private static void beyond(Calendaract x, int least, int most, Call call) {
        for (int argument : new int[] {least - 1, most + 1, LOW, HIGH}) {
            // One that is not refused is enough: a huge count, if not refused, would take long.
            if (!thrown(ARGUMENT, x, () -> call.on(argument))) {
                return;
            }
        }
    }

    /** What throws changes nothing, which the digest tells. */
    private static boolean thrown(Class<?> want, Calendaract x, Supplier<Object> call) {
        long before = x.digest();
        Object got;
        try {
            got = call.get();
        } catch (RuntimeException e) {
            got = e.getClass();
        }
        if (got != want) {
            fail("answered " + got + ", due is " + want);
        }
        due(before, x.digest());
        return got == want;
    }

    private static void fail(String text) {
        wrong++;
        if (wrong > 50) {
            return;
        }
        StackTraceElement at = null;
        for (StackTraceElement element : new Throwable().getStackTrace()) {
            if (at == null && element.getMethodName().startsWith("promise")) {
                at = element;
            }
        }
        System.out.println("promise " + promise + (at == null ? "" : ", " + at) + ": " + text);
    }
}
