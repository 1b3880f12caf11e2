/** Promises 1 to 5: a new object, set, coat, told, asks. */
public final class MoodsTest {
    private static final Due due = new Due("MoodsTest");
    private static final int BAD = -2, FULL = -4;

    public static void main(String[] args) {
        newObject();
        setsAndTells();
        setRefuses();
        coatsCome();
        toldRefuses();
        toldRight();
        kindsFit();
        kindsFineAndCost();
        fineAndCostAreBounded();
        noCoat();
        asksRefuses();
        due.end();
    }

    private static void newObject() {
        CoatsFitTheMood x = new CoatsFitTheMood();
        due.is("1 count(0)", x.count(0), 0);
        due.is("1 count(1)", x.count(1), 0);
        due.is("1 count(2)", x.count(2), 1);
        due.is("1 count(3)", x.count(3), 0);
        due.is("1 count(4)", x.count(4), 0);
        for (int one = 0; one < 3; one++) {
            for (int hour = 0; hour < 24; hour++) {
                due.is("1 calm " + one + " " + hour, x.told(100 * one + hour, 0), 50);
                due.is("1 right " + one + " " + hour, x.told(100 * one + hour, 5), 0);
            }
        }
        for (int sheet = 0; sheet < 4; sheet++) due.is("1 missing " + sheet, x.cell(sheet, 0, 0), -11);
        due.is("1 back()", x.back(), -3);
        due.is("1 told(0, 1)", x.told(0, 1), BAD);
        CoatsFitTheMood y = new CoatsFitTheMood();
        x.coat(0, 0, 0);
        x.set(0, 0, 7);
        due.is("1 another object has its own coats", y.count(0), 0);
        due.is("1 another object has its own moods", y.told(0, 0), 50);
    }

    private static void setsAndTells() {
        CoatsFitTheMood x = new CoatsFitTheMood();
        due.is("2 set(0, 0, 99)", x.set(0, 0, 99), 50);
        due.is("2 set(0, 0, 0)", x.set(0, 0, 0), 99);
        due.is("2 set(0, 223, 7)", x.set(0, 223, 7), 50);
        due.is("2 set(0, 123, 8)", x.set(0, 123, 8), 50);
        due.is("2 set(0, 223, 9)", x.set(0, 223, 9), 7);
        due.is("4 told(0, 0)", x.told(0, 0), 0);
        due.is("4 told(1, 0)", x.told(1, 0), 50);
        due.is("4 told(223, 0)", x.told(223, 0), 9);
        due.is("4 told(123, 0)", x.told(123, 0), 8);
        due.is("4 told(23, 0)", x.told(23, 0), 50);
        x.coat(3, 4, 55);
        x.coat(2, 1, 10);
        due.is("2 set(1, 0, 9)", x.set(1, 0, 9), 4);
        due.is("2 set(1, 0, 0)", x.set(1, 0, 0), 9);
        due.is("2 set(2, 0, 99)", x.set(2, 0, 99), 55);
        due.is("2 set(2, 0, 0)", x.set(2, 0, 0), 99);
        due.is("2 set(3, 0, 999)", x.set(3, 0, 999), 0);
        due.is("2 set(3, 0, 0)", x.set(3, 0, 0), 999);
        due.is("2 set(3, 0, 12)", x.set(3, 0, 12), 0);
        due.is("4 told(0, 1)", x.told(0, 1), 0);
        due.is("4 told(0, 2)", x.told(0, 2), 0);
        due.is("4 told(0, 3)", x.told(0, 3), 12);
        due.is("4 told(0, 4)", x.told(0, 4), 3);
        due.is("4 told(1, 1)", x.told(1, 1), 1);
        due.is("4 told(1, 2)", x.told(1, 2), 10);
        due.is("4 told(1, 3)", x.told(1, 3), 0);
        due.is("4 told(1, 4)", x.told(1, 4), 2);
    }

    private static void setRefuses() {
        CoatsFitTheMood x = new CoatsFitTheMood();
        x.coat(0, 5, 50);
        long before = Due.state(x);
        int[] places = {-1, -100, 24, 99, 124, 199, 224, 300, 323, Integer.MAX_VALUE, Integer.MIN_VALUE};
        for (int of : places) due.is("2 set(0, " + of + ", 0)", x.set(0, of, 0), BAD);
        int[] coats = {-1, 1, 8, Integer.MAX_VALUE, Integer.MIN_VALUE};
        for (int what = 1; what <= 3; what++) {
            for (int of : coats) due.is("2 set(" + what + ", " + of + ", 0)", x.set(what, of, 0), BAD);
            due.is("2 set(" + what + ", 0, -1)", x.set(what, 0, -1), BAD);
        }
        due.is("2 set(0, 0, -1)", x.set(0, 0, -1), BAD);
        due.is("2 set(0, 0, 100)", x.set(0, 0, 100), BAD);
        due.is("2 set(1, 0, 10)", x.set(1, 0, 10), BAD);
        due.is("2 set(2, 0, 100)", x.set(2, 0, 100), BAD);
        due.is("2 set(3, 0, 1000)", x.set(3, 0, 1000), BAD);
        int[] whats = {-1, 4, 5, Integer.MAX_VALUE, Integer.MIN_VALUE};
        for (int what : whats) due.is("2 set(" + what + ", 0, 0)", x.set(what, 0, 0), BAD);
        due.is("2 refusals change nothing", Due.state(x), before);
    }

    private static void coatsCome() {
        CoatsFitTheMood x = new CoatsFitTheMood();
        due.is("3 coat(-1, 0, 0)", x.coat(-1, 0, 0), BAD);
        due.is("3 coat(6, 0, 0)", x.coat(6, 0, 0), BAD);
        due.is("3 coat(0, -1, 0)", x.coat(0, -1, 0), BAD);
        due.is("3 coat(0, 10, 0)", x.coat(0, 10, 0), BAD);
        due.is("3 coat(0, 0, -1)", x.coat(0, 0, -1), BAD);
        due.is("3 coat(0, 0, 100)", x.coat(0, 0, 100), BAD);
        due.is("3 none came", x.count(0), 0);
        for (int i = 0; i < 8; i++) {
            due.is("3 coat " + i, x.coat(i % 6, 9 - i, 99 - i), i);
            due.is("3 KIND " + i, x.told(i, 4), i % 6);
            due.is("3 NUMBER " + i, x.told(i, 1), 9 - i);
            due.is("3 CUT " + i, x.told(i, 2), 99 - i);
            due.is("3 WORN " + i, x.told(i, 3), 0);
        }
        due.is("3 a ninth", x.coat(0, 0, 0), FULL);
        due.is("3 BAD is ahead of FULL", x.coat(6, 0, 0), BAD);
        due.is("3 BAD is ahead of FULL", x.coat(0, 10, 0), BAD);
        due.is("3 BAD is ahead of FULL", x.coat(0, 0, 100), BAD);
        due.is("3 eight stay", x.count(0), 8);
        CoatsFitTheMood y = new CoatsFitTheMood();
        y.image();
        y.coat(0, 0, 0);
        y.set(3, 0, 77);
        y.back();
        y.coat(1, 2, 3);
        due.is("3 WORN 0 as one comes, also where another one stood", y.told(0, 3), 0);
    }

    private static void toldRefuses() {
        CoatsFitTheMood x = new CoatsFitTheMood();
        x.coat(0, 0, 0);
        int[] places = {-1, 24, 99, 124, 224, 300, Integer.MAX_VALUE, Integer.MIN_VALUE};
        for (int of : places) {
            due.is("4 told(" + of + ", 0)", x.told(of, 0), BAD);
            due.is("4 told(" + of + ", 5)", x.told(of, 5), BAD);
        }
        int[] coats = {-1, 1, 8, Integer.MAX_VALUE, Integer.MIN_VALUE};
        int[] whats = {1, 2, 3, 4, 6};
        for (int what : whats) {
            for (int of : coats) due.is("4 told(" + of + ", " + what + ")", x.told(of, what), BAD);
        }
        due.is("4 told(0, 7)", x.told(0, 7), BAD);
        due.is("4 told(0, -1)", x.told(0, -1), BAD);
        due.is("4 told(0, MIN)", x.told(0, Integer.MIN_VALUE), BAD);
    }

    private static void toldRight() {
        CoatsFitTheMood x = new CoatsFitTheMood();
        x.coat(0, 0, 50);
        x.coat(1, 0, 50);
        x.coat(2, 0, 50);
        x.coat(4, 0, 50);
        Due.moods(x, 1, 50, 60, 70, 80);
        due.is("4 RIGHT at 50", x.told(100, 5), 1 + 2 + 4);
        due.is("4 RIGHT at 60", x.told(101, 5), 1 + 4);
        due.is("4 RIGHT at 70", x.told(102, 5), 4);
        due.is("4 RIGHT at 80", x.told(103, 5), 8);
        due.is("4 RIGHT of another", x.told(3, 5), 1 + 2 + 4);
        due.is("4 HOURS of a COAT", x.told(0, 6), 24 + 12 + 24);
        due.is("4 HOURS of a TIGHT", x.told(1, 6), 24 + 6 + 24);
        due.is("4 HOURS of a LOOSE", x.told(2, 6), 24 + 18 + 24);
        due.is("4 HOURS of an IRONY", x.told(3, 6), 6);
        Due.rule(x, "eases hour; fines 1; costs 1;");
        x.set(2, 0, 40);
        due.is("4 RIGHT by the HOUR, early", x.told(9, 5) & 1, 0);
        due.is("4 RIGHT by the HOUR, late", x.told(10, 5) & 1, 1);
        due.is("4 HOURS by the HOUR", x.told(0, 6), 14 + (3 + 1) + 14);
    }

    /** OFF, and FITS by THE RULE's eases 15, at the last MOODS that fit and the first ones that don't. */
    private static void kindsFit() {
        CoatsFitTheMood x = new CoatsFitTheMood();
        x.coat(0, 0, 50);
        x.coat(1, 0, 50);
        x.coat(2, 0, 50);
        x.coat(3, 0, 49);
        x.coat(4, 0, 50);
        x.coat(5, 3, 50);
        fits(x, 0, new int[] {35, 50, 65}, new int[] {34, 66, 0, 99});
        fits(x, 1, new int[] {43, 50, 57}, new int[] {42, 58, 0, 99});
        fits(x, 2, new int[] {25, 50, 75}, new int[] {24, 76, 0, 99});
        fits(x, 3, new int[] {42, 49}, new int[] {41, 50, 51, 56, 99});
        fits(x, 4, new int[] {24, 76, 0, 99}, new int[] {25, 50, 75});
        fits(x, 5, new int[] {35, 65, 3, 13, 33, 73, 93}, new int[] {34, 66, 0, 30, 99});
        due.is("5 OFF below", x.asks(0, 2000, 3), 30);
        due.is("5 OFF above", x.asks(0, 9923, 3), 49);
        due.is("5 OFF none", x.asks(0, 5000, 3), 0);
        Due.rule(x, "eases 0; fines 0; costs 0;");
        fits(x, 0, new int[] {50}, new int[] {49, 51});
        fits(x, 1, new int[] {50}, new int[] {49, 51});
        fits(x, 2, new int[] {40, 60}, new int[] {39, 61});
        Due.rule(x, "eases 14; fines 0; costs 0;");
        fits(x, 1, new int[] {43, 57}, new int[] {42, 58});
        fits(x, 3, new int[] {42, 49}, new int[] {41, 50});
    }

    private static void fits(CoatsFitTheMood x, int coat, int[] fit, int[] not) {
        for (int mood : fit) due.is("5 " + coat + " FITS " + mood, x.asks(coat, 100 * mood + 23, 0), 1);
        for (int mood : not) due.is("5 " + coat + " doesn't FIT " + mood, x.asks(coat, 100 * mood + 23, 0), 0);
    }

    private static void kindsFineAndCost() {
        CoatsFitTheMood x = new CoatsFitTheMood();
        for (int kind = 0; kind < 6; kind++) x.coat(kind, 7, 50);
        int[] fines = {5, 7, 2, 14, 7, 99};
        int[] costs = {3, 10, 3, 10, 6, 0};
        for (int kind = 0; kind < 6; kind++) {
            due.is("5 FINE of KIND " + kind, x.asks(kind, 9900, 1), fines[kind]);
            due.is("5 FINE of KIND " + kind + " that FITS", x.asks(kind, 5000, 1), fines[kind]);
            due.is("5 COST of KIND " + kind, x.asks(kind, 9900, 2), costs[kind]);
        }
        Due.rule(x, "eases 0; fines mood; costs hour;");
        due.is("5 FINE by the MOOD", x.asks(0, 3305, 1), 33);
        due.is("5 FINE by the MOOD, half", x.asks(2, 3305, 1), 16);
        due.is("5 COST by the HOUR", x.asks(0, 3305, 2), 5);
    }

    private static void fineAndCostAreBounded() {
        CoatsFitTheMood x = new CoatsFitTheMood();
        for (int kind = 0; kind < 6; kind++) x.coat(kind, 9, 50);
        Due.rule(x, "eases 0; fines 98; costs 97;");
        int[] fines = {98, 99, 49, 99, 9, 99};
        int[] costs = {97, 99, 97, 99, 99, 0};
        for (int kind = 0; kind < 6; kind++) {
            due.is("5 FINE of KIND " + kind + ", bounded", x.asks(kind, 0, 1), fines[kind]);
            due.is("5 COST of KIND " + kind + ", bounded", x.asks(kind, 0, 2), costs[kind]);
        }
        Due.rule(x, "eases 0; fines 0; costs 90;");
        int[] least = {0, 2, 0, 4, 9, 99};
        int[] more = {90, 99, 90, 99, 93, 0};
        for (int kind = 0; kind < 6; kind++) {
            due.is("5 FINE of KIND " + kind + ", from 0", x.asks(kind, 0, 1), least[kind]);
            due.is("5 COST of KIND " + kind + ", at 90", x.asks(kind, 0, 2), more[kind]);
        }
    }

    private static void noCoat() {
        CoatsFitTheMood x = new CoatsFitTheMood();
        due.is("5 NONE never FITS", x.asks(-1, 5000, 0), 0);
        due.is("5 NONE's FINE", x.asks(-1, 0, 1), 99);
        due.is("5 NONE's COST", x.asks(-1, 9923, 2), 0);
        due.is("5 NONE's OFF", x.asks(-1, 9923, 3), 99);
        Due.rule(x, "eases 99; fines 0; costs 99;");
        due.is("5 NONE never FITS, by any rule", x.asks(-1, 5000, 0), 0);
        due.is("5 NONE's FINE, by any rule", x.asks(-1, 0, 1), 99);
        due.is("5 NONE's COST, by any rule", x.asks(-1, 0, 2), 0);
    }

    private static void asksRefuses() {
        CoatsFitTheMood x = new CoatsFitTheMood();
        x.coat(0, 0, 50);
        int[] coats = {-2, 1, 8, Integer.MAX_VALUE, Integer.MIN_VALUE};
        for (int coat : coats) due.is("5 asks(" + coat + ", 0, 0)", x.asks(coat, 0, 0), BAD);
        int[] hours = {-1, -100, 24, 99, 124, 9924, 10000, Integer.MAX_VALUE, Integer.MIN_VALUE};
        for (int at : hours) {
            due.is("5 asks(0, " + at + ", 0)", x.asks(0, at, 0), BAD);
            due.is("5 asks(-1, " + at + ", 3)", x.asks(-1, at, 3), BAD);
        }
        int[] whats = {-1, 4, Integer.MAX_VALUE, Integer.MIN_VALUE};
        for (int what : whats) due.is("5 asks(0, 0, " + what + ")", x.asks(0, 0, what), BAD);
    }
}
