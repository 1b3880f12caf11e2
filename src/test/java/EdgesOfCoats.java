/** Terms 1 up to the TEXTS, and promises 1 to 5: HOURS, PEOPLE, MOODS, COATS, what FITS, FINES, COSTS. */
final class EdgesOfCoats {
    private static final int BAD = -2, STATE = -3, FULL = -4, NONE = -1;
    private static final int MOST = Integer.MAX_VALUE, LEAST = Integer.MIN_VALUE;
    private static final int COAT = 0, TIGHT = 1, LOOSE = 2, GRIEF = 3, IRONY = 4, FALSE = 5;
    private final Edges e;

    EdgesOfCoats(Edges e) {
        this.e = e;
    }

    void all() {
        hours();
        people();
        moods();
        drawer();
        kinds();
        traits();
        names();
        quotients();
        refusals();
        theHostsRefusals();
        off();
        fitsOfCoatAndTight();
        fitsOfOthers();
        fines();
        costs();
        bounds();
        newObject();
        set();
        coat();
        told();
        toldOfSums();
        asks();
    }

    /** One COAT of each KIND, numbered as its KIND is. */
    private static CoatsFitTheMood six(int number, int cut) {
        CoatsFitTheMood x = new CoatsFitTheMood();
        for (int kind = 0; kind < 6; kind++) x.coat(kind, number, cut);
        return x;
    }

    private static CoatsFitTheMood full() {
        CoatsFitTheMood x = new CoatsFitTheMood();
        for (int i = 0; i < 8; i++) x.coat(0, i, 50);
        return x;
    }

    private void hours() {
        e.says("T1", "HOURS 0 .. 23.");
        CoatsFitTheMood x = full();
        e.is("told(23, 0)", x.told(23, 0), 50);
        int[] outside = {-1, 24, MOST, LEAST};
        for (int hour : outside) {
            e.is("told(" + hour + ", 0)", x.told(hour, 0), BAD);
            e.is("told(" + hour + ", 5)", x.told(hour, 5), BAD);
            e.is("set(0, " + hour + ", 1)", x.set(0, hour, 1), BAD);
            e.is("asks(0, " + hour + ", 0)", x.asks(0, hour, 0), BAD);
            e.is("push(0, " + hour + ", 1)", x.push(0, hour, 1), BAD);
            e.is("film(0, 0, " + hour + ", 1)", x.film(0, 0, hour, 1), BAD);
        }
        e.is("film(0, 0, 23, 1)", x.film(0, 0, 23, 1), 0);
        e.is("tells(0, 0, 24, 0)", x.tells(0, 0, 24, 0), BAD);
        e.is("tells(0, 0, -1, 0)", x.tells(0, 0, -1, 0), BAD);
        e.is("tells(0, 0, 23, 0)", x.tells(0, 0, 23, 0), NONE);
        e.is("tells(0, 0, 0, 0)", x.tells(0, 0, 0, 0), NONE);
        e.is("asks(0, 5023, 0)", x.asks(0, 5023, 0), 1);
        e.is("asks(0, 5024, 0)", x.asks(0, 5024, 0), BAD);
        e.is("asks(0, 5099, 0)", x.asks(0, 5099, 0), BAD);
        e.is("push(0, 23, 1)", x.push(0, 23, 1), 51);
        e.is("push(0, 0, 1)", x.push(0, 0, 1), 51);
        e.is("day(0, 33)", x.day(0, 33), 0);
        e.is("day(0, 34)", x.day(0, 34), BAD);
    }

    private void people() {
        e.says("T1", "PEOPLE 0 .. 2 have");
        CoatsFitTheMood x = full();
        x.sheet(0, 0, 24);
        int[] outside = {-1, 3, 4, MOST, LEAST};
        for (int one : outside) {
            e.is("push(" + one + ", 0, 0)", x.push(one, 0, 0), BAD);
            e.is("plan(0, " + one + ", 0)", x.plan(0, one, 0), BAD);
            e.is("wear(0, " + one + ")", x.wear(0, one), BAD);
            for (int what = 0; what <= 4; what++) e.is("day(" + one + ", " + what + ")", x.day(one, what), BAD);
            e.is("day(" + one + ", 10)", x.day(one, 10), BAD);
            e.is("dress(0, " + one + ")", x.dress(0, one), BAD);
            e.is("anew(0, " + one + ", 0)", x.anew(0, one, 0), BAD);
            e.is("pushes(" + one + ", 0, 0)", x.pushes(one, 0, 0), BAD);
            e.is("mean(" + one + ", 0)", x.mean(one, 0), CoatsFitTheMood.NO);
            e.is("drawn(0, " + one + ")", x.drawn(0, one), BAD);
            e.is("chance(0, 1, " + one + ", 0, 0)", x.chance(0, 1, one, 0, 0), CoatsFitTheMood.NO);
        }
        for (int one = 0; one < 3; one++) {
            e.is("told(" + 100 * one + ", 0)", x.told(100 * one, 0), 50);
            e.is("push(" + one + ", 0, 0)", x.push(one, 0, 0), 50);
            e.is("plan(0, " + one + ", 0)", x.plan(0, one, 0), 3);
            e.is("wear(0, " + one + ")", x.wear(0, one), 3);
            e.is("day(" + one + ", 4)", x.day(one, 4), 3);
            e.is("dress(0, " + one + ")", x.dress(0, one), 3);
            e.is("anew(0, " + one + ", 0)", x.anew(0, one, 0), 35);
            e.is("pushes(" + one + ", 0, 1)", x.pushes(one, 0, 1), 3);
            e.is("mean(" + one + ", 0)", x.mean(one, 0), 50);
            e.is("chance(0, 1, " + one + ", 9999, 0)", x.chance(0, 1, one, 9999, 0), 1);
        }
        e.is("told(300, 0)", x.told(300, 0), BAD);
        e.is("told(323, 5)", x.told(323, 5), BAD);
        e.is("set(0, 300, 0)", x.set(0, 300, 0), BAD);
        e.is("set(0, -100, 0)", x.set(0, -100, 0), BAD);
    }

    private void moods() {
        e.says("T1", "have a MOOD (0 .. 99) at each HOUR");
        CoatsFitTheMood x = new CoatsFitTheMood();
        e.is("set(0, 0, -1)", x.set(0, 0, -1), BAD);
        e.is("set(0, 0, 100)", x.set(0, 0, 100), BAD);
        e.is("set(0, 0, MAX)", x.set(0, 0, MOST), BAD);
        e.is("set(0, 0, MIN)", x.set(0, 0, LEAST), BAD);
        e.is("set(0, 0, 0)", x.set(0, 0, 0), 50);
        e.is("set(0, 0, 99)", x.set(0, 0, 99), 0);
        e.is("asks(-1, 9923, 0)", x.asks(NONE, 9923, 0), 0);
        e.is("asks(-1, 10000, 0)", x.asks(NONE, 10000, 0), BAD);
        for (int one = 0; one < 3; one++) {
            for (int hour = 0; hour < 24; hour++) x.set(0, 100 * one + hour, 30 * one + hour);
        }
        for (int one = 0; one < 3; one++) {
            for (int hour = 0; hour < 24; hour++) {
                e.is("each stands apart: told(" + (100 * one + hour) + ", 0)", x.told(100 * one + hour, 0), 30 * one + hour);
            }
        }
        e.says("T1", "(50 at first).");
        CoatsFitTheMood y = new CoatsFitTheMood();
        for (int one = 0; one < 3; one++) {
            for (int hour = 0; hour < 24; hour++) e.is("told(" + (100 * one + hour) + ", 0)", y.told(100 * one + hour, 0), 50);
        }
    }

    private void drawer() {
        e.says("T1", "COATS (8 at most, numbered from 0) have");
        CoatsFitTheMood x = new CoatsFitTheMood();
        for (int i = 0; i < 8; i++) {
            e.is("told(" + i + ", 4) ahead of it", x.told(i, 4), BAD);
            e.is("coat(1, " + i + ", 7)", x.coat(1, i, 7), i);
            e.is("told(" + i + ", 1)", x.told(i, 1), i);
        }
        e.is("a ninth", x.coat(1, 0, 7), FULL);
        e.is("told(8, 1)", x.told(8, 1), BAD);
        e.is("count(0)", x.count(0), 8);
    }

    private void kinds() {
        e.says("T1", "a KIND: 0 COAT, 1 TIGHT under COAT, 2 LOOSE under COAT, 3 GRIEF under TIGHT, 4 IRONY under LOOSE, 5 FALSE under COAT;");
        CoatsFitTheMood x = six(1, 50);
        String[] under = {"0", "10", "20", "310", "420", "50"};
        for (int kind = 0; kind < 6; kind++) {
            e.is("told(" + kind + ", 4)", x.told(kind, 4), kind);
            for (int k = 0; k < 6; k++) {
                e.is("taken(" + kind + ", " + k + ")", x.taken(kind, k), under[kind].indexOf('0' + k) >= 0 ? 1 : -13);
            }
        }
        int[] noKinds = {-1, 6, MOST, LEAST};
        for (int kind : noKinds) e.is("coat(" + kind + ", 0, 0)", x.coat(kind, 0, 0), BAD);
        e.is("none came", x.count(0), 6);
    }

    private void traits() {
        e.says("T1", "a NUMBER (0 .. 9),");
        trait(1, 9);
        e.says("T1", "a CUT (0 .. 99),");
        trait(2, 99);
        e.says("T1", "were WORN for so many HOURS (0 .. 999;");
        trait(3, 999);
        e.says("T1", "0 as one comes).");
        CoatsFitTheMood x = new CoatsFitTheMood();
        x.coat(0, 9, 99);
        e.is("told(0, 3)", x.told(0, 3), 0);
        x.sheet(0, 0, 3);
        e.is("coats(0, 0, 0, 1)", x.coats(0, 0, 0, 1), 1);
        e.is("told(1, 3) by coats()", x.told(1, 3), 0);
        x.image();
        x.coat(0, 9, 99);
        x.set(3, 2, 999);
        x.back();
        x.coat(0, 9, 99);
        e.is("told(2, 3) where another one went", x.told(2, 3), 0);
    }

    private void trait(int what, int most) {
        CoatsFitTheMood x = new CoatsFitTheMood();
        e.is("coat(0, 0, 0)", x.coat(0, 0, 0), 0);
        e.is("set(" + what + ", 0, " + most + ")", x.set(what, 0, most), 0);
        int[] outside = {-1, most + 1, MOST, LEAST};
        for (int v : outside) {
            e.is("set(" + what + ", 0, " + v + ")", x.set(what, 0, v), BAD);
            if (what == 1) e.is("coat(0, " + v + ", 0)", x.coat(0, v, 0), BAD);
            if (what == 2) e.is("coat(0, 0, " + v + ")", x.coat(0, 0, v), BAD);
        }
        e.is("told(0, " + what + ")", x.told(0, what), most);
        e.is("set(" + what + ", 0, 0)", x.set(what, 0, 0), most);
        e.is("told(0, " + what + ")", x.told(0, what), 0);
        if (what < 3) e.is("coat() of the most", x.coat(0, what == 1 ? 9 : 0, what == 2 ? 99 : 0), 1);
        if (what < 3) e.is("told(1, " + what + ")", x.told(1, what), most);
    }

    private void names() {
        e.says("T1", "NONE is -1 (also: no COAT);");
        e.is("NONE", CoatsFitTheMood.NONE, -1);
        CoatsFitTheMood x = new CoatsFitTheMood();
        e.is("asks(-1, 0, 1)", x.asks(-1, 0, 1), 99);
        e.is("day(0, 10) without COATS", x.day(0, 10), -1);
        Due.row(x, 0, 2, -1);
        e.is("plan(0, 0, 2) of one that tells -1", x.plan(0, 0, 2), 24);
        x.coat(0, 0, 50);
        for (int what = 1; what <= 6; what++) if (what != 5) e.is("told(-1, " + what + ")", x.told(-1, what), BAD);
        e.is("anew(-1, 0, 0)", x.anew(-1, 0, 0), BAD);
        e.is("tells(0, -1, 0, 0)", x.tells(0, -1, 0, 0), BAD);
        e.is("film(0, -1, 0, 0)", x.film(0, -1, 0, 0), BAD);
        e.is("taken(-1, 0)", x.taken(-1, 0), -11);
        e.says("T1", "NO, where a long is answered, -4611686018427387904.");
        e.is("NO", CoatsFitTheMood.NO, -4611686018427387904L);
        e.is("mean(3, 0)", x.mean(3, 0), -4611686018427387904L);
        e.is("chance(0, 0, 0, 0, 0)", x.chance(0, 0, 0, 0, 0), -4611686018427387904L);
    }

    private void quotients() {
        e.says("T1", "Quotients are cut toward 0.");
        CoatsFitTheMood x = new CoatsFitTheMood();
        x.coat(LOOSE, 0, 0);
        Due.rule(x, "eases 0; fines mood; costs 0;");
        for (int mood = 0; mood < 100; mood++) e.is("half of " + mood, x.asks(0, 100 * mood, 1), (mood - mood % 2) / 2);
    }

    private void refusals() {
        e.says("T1", "Refusals, the first that the call's words name;");
        CoatsFitTheMood x = full();
        e.is("coat(6, 0, 0): BAD ahead of FULL", x.coat(6, 0, 0), BAD);
        e.is("coat(0, 10, 0): BAD ahead of FULL", x.coat(0, 10, 0), BAD);
        e.is("coat(0, 0, 100): BAD ahead of FULL", x.coat(0, 0, 100), BAD);
        e.is("plan(0, 3, 0): BAD ahead of -11", x.plan(0, 3, 0), BAD);
        e.is("plan(0, 0, 3): BAD ahead of -11", x.plan(0, 0, 3), BAD);
        e.is("sheet(4, 0, -1): BAD ahead of -14", x.sheet(4, 0, -1), BAD);
        e.is("copy(0, -1, 4, -1, -1): BAD ahead of all", x.copy(0, -1, 4, -1, -1), BAD);
        e.is("taken(8, 6): BAD ahead of -11", x.taken(8, 6), BAD);
        e.says("T1", "they change nothing:");
        long before = Due.state(x);
        e.is("set(0, 0, 100)", x.set(0, 0, 100), BAD);
        e.is("set(1, 0, 10)", x.set(1, 0, 10), BAD);
        e.is("coat(0, 0, 0)", x.coat(0, 0, 0), FULL);
        e.is("push(0, 0, 100)", x.push(0, 0, 100), BAD);
        e.is("force(1)", x.force(1), BAD);
        e.is("back()", x.back(), STATE);
        e.is("feed(256)", x.feed(256), BAD);
        e.is("what may be read", Due.state(x), before);
        e.says("T1", "BAD (-2: a number is none such or not as told), STATE (-3), FULL (-4);");
        e.is("BAD", CoatsFitTheMood.BAD, -2);
        e.is("STATE", CoatsFitTheMood.STATE, -3);
        e.is("FULL", CoatsFitTheMood.FULL, -4);
        e.is("none such", x.told(8, 1), -2);
        e.is("not as told", x.set(2, 0, 100), -2);
        e.is("back()", x.back(), -3);
        e.is("coat(0, 0, 0)", x.coat(0, 0, 0), -4);
    }

    private void theHostsRefusals() {
        CoatsFitTheMood x = full();
        e.says("T1", "the host's: -11 nothing where something is asked,");
        e.is("cell() of a missing SHEET", x.cell(0, 0, 0), -11);
        e.is("plan() of a missing SHEET", x.plan(0, 0, 0), -11);
        e.is("wear() of a missing SHEET", x.wear(0, 0), -11);
        e.is("tells() of a missing SHEET", x.tells(0, 0, 0, 0), -11);
        e.is("copy() of a missing SHEET", x.copy(0, 0, 0, 0, 0), -11);
        e.is("coats() of a missing SHEET", x.coats(0, 0, 0, 0), -11);
        e.is("taken() of no COAT", x.taken(8, 0), -11);
        x.sheet(0, 0, 3);
        x.sheet(1, 1, 3);
        e.says("T1", "-12 a place outside,");
        e.is("cell(0, 3, 0)", x.cell(0, 3, 0), -12);
        e.is("copy(0, 0, 0, 1, 3)", x.copy(0, 0, 0, 1, 3), -12);
        e.is("coats(0, 0, 1, 1)", x.coats(0, 0, 1, 1), -12);
        e.says("T1", "-13 a thing of another sort or KIND,");
        e.is("copy() of unlike sorts", x.copy(0, 0, 1, 0, 3), -13);
        e.is("coats() of another sort", x.coats(0, 1, 0, 1), -13);
        e.is("taken() for another KIND", x.taken(0, 1), -13);
        e.says("T1", "-14 a size below 0.");
        e.is("sheet(0, 0, -1)", x.sheet(0, 0, -1), -14);
    }

    private void off() {
        e.says("T1", "OFF (a COAT, a MOOD): by how much CUT and MOOD are apart.");
        CoatsFitTheMood x = new CoatsFitTheMood();
        x.coat(0, 0, 40);
        x.coat(5, 0, 99);
        x.coat(4, 0, 0);
        e.is("the same", x.asks(0, 4000, 3), 0);
        e.is("1 below", x.asks(0, 3900, 3), 1);
        e.is("1 above", x.asks(0, 4100, 3), 1);
        e.is("CUT 99, MOOD 0", x.asks(1, 0, 3), 99);
        e.is("CUT 0, MOOD 99", x.asks(2, 9923, 3), 99);
    }

    private void fits(int kind, int cut, int eases, int mood, boolean due) {
        CoatsFitTheMood x = new CoatsFitTheMood();
        x.coat(kind, 7, cut);
        Due.rule(x, "eases " + eases + "; fines 5; costs 3;");
        e.is("KIND " + kind + ", CUT " + cut + ", eases " + eases + ", MOOD " + mood, x.asks(0, 100 * mood, 0), due ? 1 : 0);
    }

    private void fitsOfCoatAndTight() {
        e.says("T1", "FITS (at an HOUR, eases telling v): COAT: if OFF is v or less;");
        fits(COAT, 50, 15, 35, true);
        fits(COAT, 50, 15, 34, false);
        fits(COAT, 50, 15, 65, true);
        fits(COAT, 50, 15, 66, false);
        fits(COAT, 50, 0, 50, true);
        fits(COAT, 50, 0, 51, false);
        fits(COAT, 0, 99, 99, true);
        fits(COAT, 0, 98, 99, false);
        e.says("T1", "TIGHT: if twice OFF is v or less;");
        fits(TIGHT, 50, 15, 57, true);
        fits(TIGHT, 50, 15, 58, false);
        fits(TIGHT, 50, 16, 58, true);
        fits(TIGHT, 50, 16, 59, false);
        fits(TIGHT, 50, 15, 43, true);
        fits(TIGHT, 50, 15, 42, false);
        fits(TIGHT, 50, 0, 50, true);
        fits(TIGHT, 50, 1, 51, false);
        fits(TIGHT, 50, 2, 51, true);
        fits(TIGHT, 0, 99, 49, true);
        fits(TIGHT, 0, 99, 50, false);
    }

    private void fitsOfOthers() {
        e.says("T1", "LOOSE: if OFF is 10 and v or less;");
        fits(LOOSE, 50, 15, 75, true);
        fits(LOOSE, 50, 15, 76, false);
        fits(LOOSE, 50, 15, 25, true);
        fits(LOOSE, 50, 15, 24, false);
        fits(LOOSE, 50, 0, 60, true);
        fits(LOOSE, 50, 0, 61, false);
        fits(LOOSE, 0, 89, 99, true);
        fits(LOOSE, 0, 88, 99, false);
        e.says("T1", "GRIEF: as a TIGHT, and MOOD is below 50;");
        fits(GRIEF, 50, 15, 49, true);
        fits(GRIEF, 50, 15, 50, false);
        fits(GRIEF, 50, 15, 43, true);
        fits(GRIEF, 50, 15, 42, false);
        fits(GRIEF, 40, 15, 47, true);
        fits(GRIEF, 40, 15, 48, false);
        fits(GRIEF, 40, 16, 48, true);
        fits(GRIEF, 40, 16, 49, false);
        fits(GRIEF, 40, 0, 40, true);
        fits(GRIEF, 40, 0, 41, false);
        fits(GRIEF, 51, 99, 50, false);
        e.says("T1", "IRONY: just if a LOOSE doesn't;");
        fits(IRONY, 50, 15, 75, false);
        fits(IRONY, 50, 15, 76, true);
        fits(IRONY, 50, 15, 25, false);
        fits(IRONY, 50, 15, 24, true);
        fits(IRONY, 50, 0, 50, false);
        fits(IRONY, 0, 89, 99, false);
        fits(IRONY, 0, 88, 99, true);
        e.says("T1", "FALSE: as a COAT, or if MOOD modulo 10 is NUMBER.");
        fits(FALSE, 50, 15, 35, true);
        fits(FALSE, 50, 15, 34, false);
        fits(FALSE, 50, 15, 66, false);
        fits(FALSE, 50, 15, 7, true);
        fits(FALSE, 50, 15, 97, true);
        fits(FALSE, 50, 15, 98, false);
        fits(FALSE, 50, 15, 70, false);
        fits(FALSE, 50, 0, 57, true);
        CoatsFitTheMood x = new CoatsFitTheMood();
        x.coat(FALSE, 0, 99);
        x.coat(FALSE, 9, 50);
        e.is("NUMBER 0, MOOD 0", x.asks(0, 0, 0), 1);
        e.is("NUMBER 0, MOOD 10", x.asks(0, 1000, 0), 1);
        e.is("NUMBER 0, MOOD 9", x.asks(0, 900, 0), 0);
        e.is("NUMBER 9, MOOD 99", x.asks(1, 9900, 0), 1);
        e.is("NUMBER 9, MOOD 90", x.asks(1, 9000, 0), 0);
    }

    private void fine(int kind, int fines, int due) {
        CoatsFitTheMood x = new CoatsFitTheMood();
        x.coat(kind, 7, 50);
        Due.rule(x, "eases 15; fines " + fines + "; costs 3;");
        e.is("KIND " + kind + " by fines " + fines, x.asks(0, 9900, 1), due);
        e.is("KIND " + kind + " by fines " + fines + " where it FITS", x.asks(0, 5000, 1), due);
    }

    private void fines() {
        e.says("T1", "FINE (of an HOUR, not FITTING, fines telling v): COAT: v;");
        fine(COAT, 0, 0);
        fine(COAT, 5, 5);
        fine(COAT, 99, 99);
        e.says("T1", "TIGHT: 2 more than a COAT;");
        fine(TIGHT, 0, 2);
        fine(TIGHT, 5, 7);
        e.says("T1", "LOOSE: half (cut) of a COAT's;");
        fine(LOOSE, 0, 0);
        fine(LOOSE, 1, 0);
        fine(LOOSE, 2, 1);
        fine(LOOSE, 5, 2);
        fine(LOOSE, 99, 49);
        e.says("T1", "GRIEF: twice a TIGHT's;");
        fine(GRIEF, 0, 4);
        fine(GRIEF, 5, 14);
        e.says("T1", "IRONY: NUMBER;");
        fine(IRONY, 0, 7);
        fine(IRONY, 99, 7);
        e.says("T1", "FALSE: 99.");
        fine(FALSE, 0, 99);
        fine(FALSE, 5, 99);
    }

    private void cost(int kind, int costs, int due) {
        CoatsFitTheMood x = new CoatsFitTheMood();
        x.coat(kind, 7, 50);
        Due.rule(x, "eases 15; fines 5; costs " + costs + ";");
        e.is("KIND " + kind + " by costs " + costs, x.asks(0, 9900, 2), due);
    }

    private void costs() {
        e.says("T1", "COST (of putting it on, costs telling v): COAT: v;");
        cost(COAT, 0, 0);
        cost(COAT, 3, 3);
        cost(COAT, 99, 99);
        e.says("T1", "TIGHT: NUMBER more than a COAT;");
        cost(TIGHT, 0, 7);
        cost(TIGHT, 3, 10);
        e.says("T1", "LOOSE: as a COAT;");
        cost(LOOSE, 0, 0);
        cost(LOOSE, 99, 99);
        e.says("T1", "GRIEF: as a TIGHT;");
        cost(GRIEF, 0, 7);
        cost(GRIEF, 3, 10);
        e.says("T1", "IRONY: 3 more than a LOOSE;");
        cost(IRONY, 0, 3);
        cost(IRONY, 3, 6);
        e.says("T1", "FALSE: 0.");
        cost(FALSE, 0, 0);
        cost(FALSE, 99, 0);
    }

    private void bounds() {
        e.says("T1", "(FINE, COST 0 .. 99, else the bound.)");
        fine(TIGHT, 96, 98);
        fine(TIGHT, 97, 99);
        fine(TIGHT, 98, 99);
        fine(TIGHT, 99, 99);
        fine(GRIEF, 47, 98);
        fine(GRIEF, 48, 99);
        fine(GRIEF, 99, 99);
        cost(TIGHT, 91, 98);
        cost(TIGHT, 92, 99);
        cost(TIGHT, 93, 99);
        cost(TIGHT, 99, 99);
        cost(GRIEF, 91, 98);
        cost(GRIEF, 93, 99);
        cost(IRONY, 95, 98);
        cost(IRONY, 96, 99);
        cost(IRONY, 97, 99);
        e.says("T1", "No COAT: never FITS; FINE 99; COST 0.");
        CoatsFitTheMood x = new CoatsFitTheMood();
        Due.rule(x, "eases 99; fines 0; costs 99;");
        for (int mood = 0; mood < 100; mood += 33) {
            e.is("asks(-1, " + 100 * mood + ", 0)", x.asks(NONE, 100 * mood, 0), 0);
            e.is("asks(-1, " + 100 * mood + ", 1)", x.asks(NONE, 100 * mood, 1), 99);
            e.is("asks(-1, " + 100 * mood + ", 2)", x.asks(NONE, 100 * mood, 2), 0);
        }
        e.is("a day without", x.day(0, 4), 24 * 99);
    }

    private void newObject() {
        e.says("1", "No COATS,");
        CoatsFitTheMood x = new CoatsFitTheMood();
        e.is("count(0)", x.count(0), 0);
        e.is("told(0, 4)", x.told(0, 4), BAD);
        e.is("told(0, 5)", x.told(0, 5), 0);
        e.is("day(0, 2)", x.day(0, 2), 16777215);
        e.says("1", "all calm.");
        for (int one = 0; one < 3; one++) {
            e.is("mean(" + one + ", 0)", x.mean(one, 0), 50);
            e.is("mean(" + one + ", 1)", x.mean(one, 1), 1);
        }
        e.is("told(223, 0)", x.told(223, 0), 50);
        CoatsFitTheMood y = new CoatsFitTheMood();
        x.push(0, 0, 9);
        x.coat(0, 0, 0);
        e.is("another one's moods", y.told(0, 0), 50);
        e.is("another one's COATS", y.count(0), 0);
    }

    private void set() {
        CoatsFitTheMood x = new CoatsFitTheMood();
        e.says("2", "MOOD of one at an HOUR (what 0; of: 100 times one, and the HOUR),");
        e.is("set(0, 223, 7)", x.set(0, 223, 7), 50);
        e.is("told(223, 0)", x.told(223, 0), 7);
        e.is("told(222, 0)", x.told(222, 0), 50);
        e.is("told(123, 0)", x.told(123, 0), 50);
        int[] noPlaces = {-1, 24, 99, 124, 199, 224, 299, 300};
        for (int of : noPlaces) e.is("set(0, " + of + ", 1)", x.set(0, of, 1), BAD);
        x.coat(3, 4, 55);
        x.coat(2, 1, 10);
        e.says("2", "NUMBER (1), CUT (2), WORN (3) of a COAT becomes v:");
        for (int what = 1; what <= 3; what++) x.set(what, 0, what + 4);
        for (int what = 1; what <= 3; what++) e.is("told(0, " + what + ")", x.told(0, what), what + 4);
        e.is("its KIND", x.told(0, 4), 3);
        e.is("another one's NUMBER", x.told(1, 1), 1);
        e.is("another one's CUT", x.told(1, 2), 10);
        e.is("another one's WORN", x.told(1, 3), 0);
        e.says("2", "what it was.");
        e.is("set(1, 1, 9)", x.set(1, 1, 9), 1);
        e.is("set(2, 1, 99)", x.set(2, 1, 99), 10);
        e.is("set(3, 1, 999)", x.set(3, 1, 999), 0);
        e.is("set(3, 1, 999)", x.set(3, 1, 999), 999);
        e.is("set(0, 223, 99)", x.set(0, 223, 99), 7);
        CoatsFitTheMood y = new CoatsFitTheMood();
        for (int one = 0; one < 3; one++) {
            for (int hour = 0; hour < 24; hour++) y.set(0, 100 * one + hour, 30 * one + hour);
        }
        for (int one = 0; one < 3; one++) {
            for (int hour = 0; hour < 24; hour++) {
                e.is("set(0, " + (100 * one + hour) + ", 99)", y.set(0, 100 * one + hour, 99), 30 * one + hour);
            }
        }
        e.says("2", "BAD.");
        int[] noWhats = {-1, 4, 5, 6, MOST, LEAST};
        for (int what : noWhats) e.is("set(" + what + ", 0, 0)", x.set(what, 0, 0), BAD);
        int[] noCoats = {-1, 2, 7, 8, MOST, LEAST};
        for (int of : noCoats) {
            for (int what = 1; what <= 3; what++) e.is("set(" + what + ", " + of + ", 0)", x.set(what, of, 0), BAD);
        }
        e.is("set(0, 0, 100)", x.set(0, 0, 100), BAD);
        e.is("set(1, 0, 10)", x.set(1, 0, 10), BAD);
        e.is("set(2, 0, 100)", x.set(2, 0, 100), BAD);
        e.is("set(3, 0, 1000)", x.set(3, 0, 1000), BAD);
        for (int what = 0; what <= 3; what++) e.is("set(" + what + ", 0, -1)", x.set(what, 0, -1), BAD);
    }

    private void coat() {
        e.says("3", "A COAT: its number.");
        CoatsFitTheMood x = new CoatsFitTheMood();
        e.is("coat(5, 9, 99)", x.coat(5, 9, 99), 0);
        e.is("coat(0, 0, 0)", x.coat(0, 0, 0), 1);
        e.is("its KIND", x.told(0, 4), 5);
        e.is("its NUMBER", x.told(0, 1), 9);
        e.is("its CUT", x.told(0, 2), 99);
        e.is("the other's CUT", x.told(1, 2), 0);
        e.says("3", "BAD;");
        int[][] bad = {{-1, 0, 0}, {6, 0, 0}, {0, -1, 0}, {0, 10, 0}, {0, 0, -1}, {0, 0, 100}};
        for (int[] b : bad) e.is("coat(" + b[0] + ", " + b[1] + ", " + b[2] + ")", x.coat(b[0], b[1], b[2]), BAD);
        e.is("none came", x.count(0), 2);
        for (int i = 2; i < 8; i++) x.coat(0, 0, 0);
        for (int[] b : bad) e.is("full, coat(" + b[0] + ", " + b[1] + ", " + b[2] + ")", x.coat(b[0], b[1], b[2]), BAD);
        e.says("3", "FULL.");
        e.is("a ninth", x.coat(0, 0, 0), FULL);
        e.is("count(0)", x.count(0), 8);
    }

    private void told() {
        CoatsFitTheMood x = full();
        e.says("4", "What 0 .. 3 as of set(),");
        x.set(0, 112, 77);
        x.set(3, 7, 40);
        e.is("told(112, 0)", x.told(112, 0), 77);
        e.is("told(7, 1)", x.told(7, 1), 7);
        e.is("told(7, 2)", x.told(7, 2), 50);
        e.is("told(7, 3)", x.told(7, 3), 40);
        e.says("4", "4 KIND of a COAT,");
        CoatsFitTheMood y = six(0, 0);
        for (int kind = 0; kind < 6; kind++) e.is("told(" + kind + ", 4)", y.told(kind, 4), kind);
        e.says("4", "BAD.");
        int[] noPlaces = {-1, -100, 24, 99, 124, 224, 300, MOST, LEAST};
        for (int of : noPlaces) e.is("told(" + of + ", 0)", x.told(of, 0), BAD);
        for (int of : noPlaces) e.is("told(" + of + ", 5)", x.told(of, 5), BAD);
        int[] noCoats = {-1, 8, 9, 100, MOST, LEAST};
        int[] ofCoats = {1, 2, 3, 4, 6};
        for (int what : ofCoats) {
            for (int of : noCoats) e.is("told(" + of + ", " + what + ")", x.told(of, what), BAD);
        }
        int[] noWhats = {-1, 7, 8, MOST, LEAST};
        for (int what : noWhats) e.is("told(0, " + what + ")", x.told(0, what), BAD);
    }

    private void toldOfSums() {
        e.says("4", "5 RIGHT (bits; of as of what 0),");
        CoatsFitTheMood x = full();
        e.is("told(0, 5): all eight", x.told(0, 5), 255);
        x.set(2, 0, 99);
        x.set(2, 7, 0);
        e.is("told(0, 5): but the first and the last", x.told(0, 5), 126);
        x.set(0, 223, 99);
        e.is("told(223, 5)", x.told(223, 5), 1);
        e.is("told(222, 5)", x.told(222, 5), 126);
        e.is("told(123, 5)", x.told(123, 5), 126);
        CoatsFitTheMood y = new CoatsFitTheMood();
        for (int one = 0; one < 3; one++) y.coat(0, 0, 20 + 30 * one);
        Due.rule(y, "eases 0; fines 5; costs 3;");
        for (int one = 0; one < 3; one++) Due.moods(y, one, 20 + 30 * one);
        for (int one = 0; one < 3; one++) {
            for (int hour = 0; hour < 24; hour++) e.is("told(" + (100 * one + hour) + ", 5)", y.told(100 * one + hour, 5), 1 << one);
        }
        e.says("4", "6 how many HOURS it FITS, of all three, together (of a COAT).");
        e.is("told(0, 6): one HOUR of the last one", x.told(0, 6), 1);
        e.is("told(1, 6): all but that one", x.told(1, 6), 71);
        e.is("told(7, 6): none", x.told(7, 6), 0);
        x.set(0, 0, 0);
        x.set(0, 123, 1);
        e.is("told(7, 6): one of two", x.told(7, 6), 2);
        x.set(2, 3, 51);
        Due.rule(x, "eases hour; fines 5; costs 3;");
        e.is("told(3, 6): by each HOUR", x.told(3, 6), 23 + 22 + 22);
    }

    private void asks() {
        CoatsFitTheMood x = six(7, 50);
        e.says("5", "Of a COAT (NONE, too), a MOOD and an HOUR (moodHour: 100 times the MOOD, and the HOUR):");
        Due.rule(x, "eases 15; fines mood; costs hour;");
        e.is("asks(0, 3305, 1)", x.asks(0, 3305, 1), 33);
        e.is("asks(0, 3305, 2)", x.asks(0, 3305, 2), 5);
        e.is("asks(0, 9923, 1)", x.asks(0, 9923, 1), 99);
        e.is("asks(0, 9923, 2)", x.asks(0, 9923, 2), 23);
        e.is("asks(-1, 9923, 1)", x.asks(NONE, 9923, 1), 99);
        e.is("asks(-1, 9923, 2)", x.asks(NONE, 9923, 2), 0);
        e.says("5", "whether it FITS (what 0; 1, 0), FINE (1), COST (2), OFF (3;");
        x.force(0);
        e.is("asks(0, 6523, 0)", x.asks(0, 6523, 0), 1);
        e.is("asks(0, 6623, 0)", x.asks(0, 6623, 0), 0);
        e.is("asks(1, 6623, 1)", x.asks(1, 6623, 1), 7);
        e.is("asks(1, 6623, 2)", x.asks(1, 6623, 2), 10);
        e.is("asks(1, 6623, 3)", x.asks(1, 6623, 3), 16);
        e.says("5", "no COAT: 99).");
        e.is("asks(-1, 0, 3)", x.asks(NONE, 0, 3), 99);
        e.is("asks(-1, 5023, 3)", x.asks(NONE, 5023, 3), 99);
        e.says("5", "BAD.");
        int[] noCoats = {-2, 6, 7, 8, MOST, LEAST};
        for (int coat : noCoats) for (int what = 0; what < 4; what++) e.is("asks(" + coat + ", 0, " + what + ")", x.asks(coat, 0, what), BAD);
        int[] noTimes = {-1, -100, 24, 99, 124, 9924, 9999, 10000, 10023, MOST, LEAST};
        for (int at : noTimes) {
            e.is("asks(0, " + at + ", 0)", x.asks(0, at, 0), BAD);
            e.is("asks(-1, " + at + ", 3)", x.asks(NONE, at, 3), BAD);
        }
        int[] noWhats = {-1, 4, MOST, LEAST};
        for (int what : noWhats) {
            e.is("asks(0, 0, " + what + ")", x.asks(0, 0, what), BAD);
            e.is("asks(-1, 0, " + what + ")", x.asks(NONE, 0, what), BAD);
        }
    }
}
