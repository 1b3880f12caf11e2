/** Promises 9 to 13: push, plan, wear, day, dress. */
public final class DaysTest {
    private static final Due due = new Due("DaysTest");
    private static final int BAD = -2, NOTHING = -11, NONE = -1;
    private static final int ALL_HOURS = (1 << 24) - 1;

    public static void main(String[] args) {
        pushes();
        pushRefuses();
        plansAreTold();
        plansAreToldHourByHour();
        planRefuses();
        wears();
        wearRefuses();
        covers();
        bares();
        changes();
        cheap();
        cheapOfLikeOnes();
        dayRefuses();
        dresses();
        due.end();
    }

    private static void pushes() {
        CoatsFitTheMood x = new CoatsFitTheMood();
        due.is("9 push(0, 12, 49)", x.push(0, 12, 49), 99);
        for (int hour = 0; hour < 24; hour++) due.is("9 mood " + hour, x.told(hour, 0), hour < 12 ? 50 : 99);
        due.is("9 push(0, 12, 1)", x.push(0, 12, 1), 99);
        due.is("9 push(0, 0, -99)", x.push(0, 0, -99), 0);
        for (int hour = 0; hour < 24; hour++) due.is("9 mood " + hour, x.told(hour, 0), 0);
        due.is("9 push(0, 23, 99)", x.push(0, 23, 99), 99);
        due.is("9 only that HOUR", x.told(22, 0), 0);
        due.is("9 that HOUR", x.told(23, 0), 99);
        due.is("9 push(0, 22, 7)", x.push(0, 22, 7), 7);
        due.is("9 bounded above", x.told(23, 0), 99);
        due.is("9 push(0, 22, 0)", x.push(0, 22, 0), 7);
        due.is("9 push(2, 0, -1)", x.push(2, 0, -1), 49);
        for (int hour = 0; hour < 24; hour++) due.is("9 another's mood " + hour, x.told(100 + hour, 0), 50);
    }

    private static void pushRefuses() {
        CoatsFitTheMood x = new CoatsFitTheMood();
        long before = Due.state(x);
        due.is("9 push(-1, 0, 1)", x.push(-1, 0, 1), BAD);
        due.is("9 push(3, 0, 1)", x.push(3, 0, 1), BAD);
        due.is("9 push(0, -1, 1)", x.push(0, -1, 1), BAD);
        due.is("9 push(0, 24, 1)", x.push(0, 24, 1), BAD);
        due.is("9 push(0, 0, -100)", x.push(0, 0, -100), BAD);
        due.is("9 push(0, 0, 100)", x.push(0, 0, 100), BAD);
        due.is("9 push(MIN, 0, 0)", x.push(Integer.MIN_VALUE, 0, 0), BAD);
        due.is("9 push(0, MAX, 0)", x.push(0, Integer.MAX_VALUE, 0), BAD);
        due.is("9 push(0, 0, MIN)", x.push(0, 0, Integer.MIN_VALUE), BAD);
        due.is("9 refusals change nothing", Due.state(x), before);
    }

    /** All is told at MOOD 50, by eases 15, fines 5, costs 3. */
    private static CoatsFitTheMood four() {
        CoatsFitTheMood x = new CoatsFitTheMood();
        x.coat(0, 0, 50);
        x.coat(1, 3, 60);
        x.coat(2, 1, 20);
        x.coat(4, 2, 50);
        return x;
    }

    private static void told(CoatsFitTheMood x, int one, int fines, int costs, int misfits) {
        due.is("10 plan(0, " + one + ", 0)", x.plan(0, one, 0), fines + costs);
        due.is("10 plan(0, " + one + ", 1)", x.plan(0, one, 1), fines);
        due.is("10 plan(0, " + one + ", 2)", x.plan(0, one, 2), misfits);
    }

    private static int[] allDay(int coat) {
        int[] plan = new int[24];
        for (int hour = 0; hour < 24; hour++) plan[hour] = coat;
        return plan;
    }

    private static void plansAreTold() {
        for (int sort = 0; sort <= 2; sort++) {
            CoatsFitTheMood x = four();
            Due.row(x, 0, sort);
            told(x, 0, 24 * 99, 0, 24);
            Due.row(x, 0, sort, allDay(0));
            told(x, 0, 0, 3, 0);
            Due.row(x, 0, sort, allDay(1));
            told(x, 1, 24 * 7, 6, 24);
            Due.row(x, 0, sort, allDay(2));
            told(x, 2, 24 * 2, 3, 24);
            Due.row(x, 0, sort, allDay(3));
            told(x, 0, 24 * 2, 6, 24);
            Due.row(x, 0, sort, allDay(NONE));
            told(x, 0, 24 * 99, 0, 24);
            Due.row(x, 0, sort, 0);
            told(x, 0, 23 * 99, 3, 23);
            Due.row(x, 0, sort, 0, 1, 0, NONE, 0, 0);
            told(x, 0, 7 + 99 + 18 * 99, 3 + 6 + 3 + 3, 20);
            Due.row(x, 0, sort, NONE, NONE, 0, 0);
            told(x, 0, 22 * 99, 3, 22);
        }
        CoatsFitTheMood x = four();
        Due.row(x, 0, 0, 255, 256, 257);
        told(x, 0, 99 + 7 + 21 * 99, 3 + 6, 23);
        Due.row(x, 0, 1, 65535, 65536, 65537);
        told(x, 0, 99 + 7 + 21 * 99, 3 + 6, 23);
    }

    /** FINE and COST are told by MOOD and HOUR, of one; a COAT that FITS is fined nothing. */
    private static void plansAreToldHourByHour() {
        CoatsFitTheMood x = new CoatsFitTheMood();
        x.coat(0, 0, 50);
        x.coat(0, 0, 10);
        Due.rule(x, "eases 0; fines mood; costs hour;");
        Due.moods(x, 1, 50, 10, 30);
        Due.row(x, 0, 0, 0, 0, 0, 1, 1, 1);
        due.is("10 fines by MOOD", x.plan(0, 1, 1), 10 + 30 + 50 + 30 + 18 * 99);
        due.is("10 costs by HOUR", x.plan(0, 1, 0) - x.plan(0, 1, 1), 3);
        due.is("10 misfits", x.plan(0, 1, 2), 4 + 18);
        due.is("10 of another", x.plan(0, 0, 1), 3 * 50 + 18 * 99);
    }

    private static void planRefuses() {
        CoatsFitTheMood x = four();
        Due.row(x, 0, 0, 0);
        int[] sheets = {-1, 4, Integer.MAX_VALUE, Integer.MIN_VALUE};
        for (int sheet : sheets) due.is("10 plan(" + sheet + ", 0, 0)", x.plan(sheet, 0, 0), BAD);
        int[] ones = {-1, 3, Integer.MAX_VALUE, Integer.MIN_VALUE};
        for (int one : ones) due.is("10 plan(0, " + one + ", 0)", x.plan(0, one, 0), BAD);
        for (int what : ones) due.is("10 plan(0, 0, " + what + ")", x.plan(0, 0, what), BAD);
        due.is("10 plan of a missing SHEET", x.plan(1, 0, 0), NOTHING);
        due.is("10 BAD one is ahead of -11", x.plan(1, 3, 0), BAD);
        due.is("10 BAD what is ahead of -11", x.plan(1, 0, 3), BAD);
        x.sheet(2, 0, 25);
        due.is("10 it tells more than 24", x.plan(2, 0, 0), BAD);
        x.sheet(2, 0, 24);
        due.is("10 it tells 24", x.plan(2, 0, 0), 3);
        x.cell(2, 23, 4);
        due.is("10 a COAT that isn't", x.plan(2, 0, 0), BAD);
        x.cell(2, 23, -2);
        due.is("10 a COAT that isn't", x.plan(2, 0, 2), BAD);
        Due.row(x, 3, 2, 256);
        due.is("10 a COAT that isn't", x.plan(3, 0, 0), BAD);
        Due.row(x, 3, 1, 255);
        due.is("10 a COAT that isn't", x.plan(3, 0, 0), BAD);
    }

    private static void wears() {
        CoatsFitTheMood x = four();
        Due.row(x, 0, 0, 0, 0, 1, NONE, 0, 2);
        int costs = x.plan(0, 0, 0);
        due.is("11 wear(0, 0)", x.wear(0, 0), 0 + 0 + 7 + 99 + 0 + 2 + 18 * 99 + 3 + 6 + 3 + 3);
        due.is("11 as plan()", costs, x.plan(0, 0, 0));
        due.is("11 WORN 0", x.told(0, 3), 3);
        due.is("11 WORN 1", x.told(1, 3), 1);
        due.is("11 WORN 2", x.told(2, 3), 1);
        due.is("11 WORN 3", x.told(3, 3), 0);
        due.is("11 together", x.count(1), 5);
        x.wear(0, 1);
        due.is("11 WORN anew", x.told(0, 3), 6);
        x.set(3, 0, 997);
        x.wear(0, 1);
        due.is("11 999 at most", x.told(0, 3), 999);
        Due.row(x, 0, 0, allDay(0));
        x.wear(0, 1);
        due.is("11 999 at most", x.told(0, 3), 999);
        CoatsFitTheMood y = new CoatsFitTheMood();
        y.coat(0, 0, 0);
        y.set(3, 0, 10);
        Due.rule(y, "eases 0; fines worn; costs worn + 1;");
        Due.row(y, 0, 0, allDay(0));
        due.is("11 behind all telling", y.wear(0, 0), 24 * 10 + 11);
        due.is("11 behind all telling, then", y.wear(0, 0), 24 * 34 + 35);
    }

    private static void wearRefuses() {
        CoatsFitTheMood x = four();
        Due.row(x, 0, 0, 0, 1, 4);
        long before = Due.state(x);
        int[] sheets = {-1, 4, Integer.MAX_VALUE, Integer.MIN_VALUE};
        for (int sheet : sheets) due.is("11 wear(" + sheet + ", 0)", x.wear(sheet, 0), BAD);
        int[] ones = {-1, 3, Integer.MAX_VALUE, Integer.MIN_VALUE};
        for (int one : ones) due.is("11 wear(0, " + one + ")", x.wear(0, one), BAD);
        due.is("11 wear of a missing SHEET", x.wear(1, 0), NOTHING);
        due.is("11 BAD is ahead of -11", x.wear(1, 3), BAD);
        due.is("11 a COAT that isn't", x.wear(0, 0), BAD);
        x.sheet(2, 2, 25);
        due.is("11 it tells more than 24", x.wear(2, 0), BAD);
        due.is("11 refusals change nothing", Due.state(x), before);
    }

    private static void cover(CoatsFitTheMood x, int one, int bits, int many) {
        due.is("12 COVER", x.day(one, 0), bits);
        due.is("12 COVER's many", x.day(one, 1), many);
    }

    private static void covers() {
        CoatsFitTheMood x = new CoatsFitTheMood();
        cover(x, 0, 0, 0);
        x.coat(0, 0, 20);
        x.coat(0, 0, 50);
        x.coat(0, 0, 80);
        Due.moods(x, 1, 40, 60);
        cover(x, 1, 2, 1);
        Due.moods(x, 1, 30, 70);
        cover(x, 1, 5, 2);
        x.coat(2, 0, 50);
        cover(x, 1, 8, 1);
        Due.moods(x, 1, 40, 60);
        cover(x, 1, 2, 1);
        Due.moods(x, 1, 99, 40);
        cover(x, 1, 2, 1);
        Due.moods(x, 1, 99, 2);
        cover(x, 1, 0, 0);
        Due.moods(x, 1, 10, 50, 90);
        cover(x, 1, 7, 3);
        x.coat(0, 0, 50);
        cover(x, 1, 7, 3);
        for (int i = 5; i < 8; i++) x.coat(0, 0, 10);
        Due.moods(x, 2, 0);
        cover(x, 2, 32, 1);
        CoatsFitTheMood y = new CoatsFitTheMood();
        y.coat(0, 0, 99);
        y.coat(0, 0, 0);
        y.coat(0, 0, 50);
        y.set(0, 0, 15);
        cover(y, 0, 2 + 4, 2);
        y.set(0, 23, 84);
        cover(y, 0, 1 + 2 + 4, 3);
        y.set(0, 0, 50);
        cover(y, 0, 1 + 4, 2);
    }

    private static void bares() {
        CoatsFitTheMood x = new CoatsFitTheMood();
        due.is("12 BARE of no COATS", x.day(0, 2), ALL_HOURS);
        x.coat(0, 0, 50);
        due.is("12 BARE of none", x.day(0, 2), 0);
        x.set(0, 0, 66);
        x.set(0, 5, 34);
        x.set(0, 6, 35);
        x.set(0, 23, 0);
        due.is("12 BARE", x.day(0, 2), 1 + 32 + (1 << 23));
        due.is("12 BARE of another", x.day(1, 2), 0);
        x.coat(0, 0, 0);
        due.is("12 BARE by all COATS", x.day(0, 2), 1 + 32);
    }

    private static void changes() {
        CoatsFitTheMood x = new CoatsFitTheMood();
        due.is("12 CHANGES of no COATS", x.day(0, 3), 0);
        x.coat(0, 0, 20);
        due.is("12 CHANGES where all is BARE", x.day(0, 3), 0);
        x.coat(0, 0, 80);
        Due.moods(x, 0, 20, 80);
        due.is("12 CHANGES each HOUR", x.day(0, 3), 23);
        x.coat(2, 0, 50);
        Due.moods(x, 0, 30, 70);
        due.is("12 CHANGES of what FITS all", x.day(0, 3), 0);
        Due.moods(x, 0, 20, 20, 50, 50, 80, 80, 50, 50, 20, 20, 20, 20);
        due.is("12 CHANGES", x.day(0, 3), 8);
        Due.moods(x, 0, 20, 99, 20, 99, 80, 99);
        due.is("12 CHANGES across BARE HOURS", x.day(0, 3), 7);
        Due.moods(x, 0, 99, 20, 99);
        due.is("12 CHANGES at BARE HOURS alone", x.day(0, 3), 0);
        Due.moods(x, 1, 30, 70, 80, 70, 70, 70, 30, 30, 30, 30, 30, 30, 30, 30, 30, 30, 30, 30, 30, 30, 30, 30, 30, 30);
        due.is("12 CHANGES: to last longest", x.day(1, 3), 2);
    }

    private static void cheap() {
        CoatsFitTheMood x = new CoatsFitTheMood();
        due.is("12 CHEAP of no COATS", x.day(0, 4), 2376);
        for (int hour = 0; hour < 24; hour++) due.is("12 none " + hour, x.day(0, 10 + hour), NONE);
        x.coat(0, 0, 20);
        x.coat(0, 0, 80);
        Due.moods(x, 0, 20, 20, 20, 80, 20, 20, 20, 20, 20, 20, 20, 20, 80, 80, 80, 80, 80, 80, 80, 80, 80, 80, 80, 80);
        due.is("12 CHEAP: one misfit is cheaper than two changes", x.day(0, 4), 3 + 5 + 3);
        for (int hour = 0; hour < 24; hour++) due.is("12 worn " + hour, x.day(0, 10 + hour), hour < 12 ? 0 : 1);
        x.set(0, 4, 80);
        due.is("12 CHEAP: two changes are cheaper than two misfits", x.day(0, 4), 3 + 3 + 3 + 3);
        for (int hour = 0; hour < 24; hour++) {
            due.is("12 worn " + hour, x.day(0, 10 + hour), hour == 3 || hour == 4 || hour >= 12 ? 1 : 0);
        }
        Due.rule(x, "eases 15; fines 99; costs 99 * (hour = 0);");
        due.is("12 CHEAP: none FITS never", x.day(0, 4), 99);
        due.is("12 HOUR 0 without a COAT", x.day(0, 10), NONE);
        due.is("12 HOUR 1", x.day(0, 11), 0);
    }

    private static void cheapOfLikeOnes() {
        CoatsFitTheMood x = new CoatsFitTheMood();
        x.coat(5, 5, 0);
        due.is("12 none first: CHEAP", x.day(0, 4), 2376);
        due.is("12 none first", x.day(0, 10), NONE);
        due.is("12 none first, at the end", x.day(0, 33), NONE);
        CoatsFitTheMood y = new CoatsFitTheMood();
        y.coat(0, 0, 50);
        y.coat(0, 0, 50);
        due.is("12 the first COAT of like ones", y.day(0, 10), 0);
        due.is("12 the first COAT of like ones, at the end", y.day(0, 33), 0);
        Due.rule(y, "eases 15; fines 5; costs 0;");
        y.set(2, 0, 0);
        y.set(0, 0, 0);
        y.set(0, 1, 50);
        due.is("12 HOUR 0", y.day(0, 10), 0);
        due.is("12 HOUR 1", y.day(0, 11), 1);
        due.is("12 CHEAP without COSTS", y.day(0, 4), 0);
        y.set(2, 0, 50);
        y.set(0, 0, 60);
        y.set(2, 1, 66);
        due.is("12 back to the first COAT", y.day(0, 10), 0);
        y.set(0, 0, 80);
        due.is("12 the other COAT, where it alone FITS", y.day(0, 10), 1);
        due.is("12 back to the first COAT, free", y.day(0, 11), 0);
        CoatsFitTheMood z = new CoatsFitTheMood();
        z.coat(0, 0, 50);
        Due.rule(z, "eases 15; fines 99; costs 3;");
        z.set(0, 0, 99);
        due.is("12 HOUR 0 decides: CHEAP", z.day(0, 4), 99 + 3);
        due.is("12 HOUR 0 decides", z.day(0, 10), NONE);
        due.is("12 HOUR 1 then", z.day(0, 11), 0);
        CoatsFitTheMood w = new CoatsFitTheMood();
        w.coat(5, 5, 0);
        w.set(0, 0, 5);
        due.is("12 taking off is free: CHEAP", w.day(0, 4), 23 * 99);
        due.is("12 a FALSE one at HOUR 0", w.day(0, 10), 0);
        due.is("12 taken off", w.day(0, 11), NONE);
    }

    private static void dayRefuses() {
        CoatsFitTheMood x = four();
        int[] ones = {-1, 3, Integer.MAX_VALUE, Integer.MIN_VALUE};
        for (int one : ones) {
            due.is("12 day(" + one + ", 0)", x.day(one, 0), BAD);
            due.is("12 day(" + one + ", 10)", x.day(one, 10), BAD);
        }
        int[] whats = {-1, 5, 9, 34, Integer.MAX_VALUE, Integer.MIN_VALUE};
        for (int what : whats) due.is("12 day(0, " + what + ")", x.day(0, what), BAD);
    }

    private static void dresses() {
        CoatsFitTheMood x = new CoatsFitTheMood();
        x.coat(0, 0, 20);
        x.coat(0, 0, 80);
        Due.moods(x, 2, 20, 20, 20, 20, 20, 20, 20, 20, 80, 80, 80, 80);
        x.sheet(3, 2, 2);
        due.is("13 dress(3, 2)", x.dress(3, 2), 9 + 3);
        due.is("13 it COSTS that", x.plan(3, 2, 0), 12);
        due.is("13 it FITS", x.plan(3, 2, 2), 0);
        due.is("13 24 items", x.cell(3, 23, 0), 1);
        due.is("13 no more", x.cell(3, 24, 0), -12);
        x.sheet(0, 0, 24);
        due.is("13 bytes", x.copy(3, 0, 0, 0, 24), 24);
        x.wear(3, 2);
        CoatsFitTheMood y = new CoatsFitTheMood();
        due.is("13 dress without COATS", y.dress(0, 0), 2376);
        due.is("13 none all day", y.plan(0, 0, 0), 2376);
        y.coat(0, 0, 50);
        due.is("13 none is NONE", y.plan(0, 0, 2), 24);
        long before = Due.state(x);
        int[] sheets = {-1, 4, Integer.MAX_VALUE, Integer.MIN_VALUE};
        for (int sheet : sheets) due.is("13 dress(" + sheet + ", 0)", x.dress(sheet, 0), BAD);
        int[] ones = {-1, 3, Integer.MAX_VALUE, Integer.MIN_VALUE};
        x.sheet(1, -1, 0);
        for (int one : ones) due.is("13 dress(1, " + one + ")", x.dress(1, one), BAD);
        due.is("13 a refusal makes no SHEET", x.cell(1, 0, 0), NOTHING);
        due.is("13 refusals change nothing", Due.state(x), before);
    }
}
