/** Promises 14 to 17: anew, pushes, all, mean. */
public final class BestTest {
    private static final Due due = new Due("BestTest");
    private static final int BAD = -2;
    private static final long NO = -4611686018427387904L;
    private static final int[] NONE_SUCH = {-1, 3, Integer.MAX_VALUE, Integer.MIN_VALUE};

    public static void main(String[] args) {
        cutsAnew();
        anewRefuses();
        wouldPush();
        pushesRefuses();
        useless();
        alike();
        means();
        due.end();
    }

    private static void anew(CoatsFitTheMood x, int coat, int one, int cut, int hours) {
        due.is("14 anew(" + coat + ", " + one + ", 0)", x.anew(coat, one, 0), cut);
        due.is("14 anew(" + coat + ", " + one + ", 1)", x.anew(coat, one, 1), hours);
    }

    private static void cutsAnew() {
        CoatsFitTheMood x = new CoatsFitTheMood();
        for (int kind = 0; kind < 6; kind++) x.coat(kind, 1, 99);
        Due.moods(x, 1, 49);
        Due.moods(x, 2, 20, 80, 80);
        anew(x, 0, 0, 35, 24);
        anew(x, 1, 0, 43, 24);
        anew(x, 2, 0, 25, 24);
        anew(x, 3, 0, 0, 0);
        anew(x, 4, 0, 0, 24);
        anew(x, 5, 0, 35, 24);
        anew(x, 3, 1, 42, 24);
        anew(x, 0, 2, 65, 16);
        anew(x, 2, 2, 55, 16);
        anew(x, 4, 2, 46, 24);
        x.set(1, 5, 0);
        anew(x, 5, 0, 0, 24);
        due.is("14 nothing is cut", x.told(0, 2), 99);
        due.is("14 nothing is cut", x.told(5, 2), 99);
        Due.moods(x, 0, 99);
        Due.rule(x, "eases 0; fines 0; costs 0;");
        anew(x, 0, 0, 99, 24);
        Due.rule(x, "eases (cut = 70) * 99; fines 0; costs 0;");
        anew(x, 0, 0, 70, 24);
        Due.rule(x, "eases hour * (cut = 3); fines 0; costs 0;");
        Due.moods(x, 0, 13);
        anew(x, 0, 0, 13, 24);
        Due.moods(x, 0, 13, 14);
        // By CUT 3: MOOD 13 at the even HOURS from 10 on, MOOD 14 at the odd ones from 11 on.
        anew(x, 0, 0, 3, 7 + 7);
    }

    private static void anewRefuses() {
        CoatsFitTheMood x = new CoatsFitTheMood();
        due.is("14 anew(0, 0, 0) without COATS", x.anew(0, 0, 0), BAD);
        x.coat(0, 0, 0);
        x.coat(0, 0, 0);
        x.coat(0, 0, 0);
        for (int none : NONE_SUCH) {
            due.is("14 anew(" + none + ", 0, 0)", x.anew(none, 0, 0), BAD);
            due.is("14 anew(0, " + none + ", 0)", x.anew(0, none, 0), BAD);
            due.is("14 anew(0, 0, " + none + ")", x.anew(0, 0, none), BAD);
        }
        due.is("14 anew(0, 0, 2)", x.anew(0, 0, 2), BAD);
        due.is("14 anew(8, 0, 0)", x.anew(8, 0, 0), BAD);
    }

    private static void pushes(CoatsFitTheMood x, int one, int v, int hour, int costs) {
        due.is("15 pushes(" + one + ", " + v + ", 0)", x.pushes(one, v, 0), hour);
        due.is("15 pushes(" + one + ", " + v + ", 1)", x.pushes(one, v, 1), costs);
    }

    private static void wouldPush() {
        CoatsFitTheMood x = new CoatsFitTheMood();
        pushes(x, 0, 99, 0, 2376);
        x.coat(0, 0, 50);
        for (int hour = 12; hour < 24; hour++) x.set(0, 100 + hour, 90);
        long before = Due.state(x);
        pushes(x, 1, 0, 0, 3 + 12 * 5);
        pushes(x, 1, -40, 12, 3);
        pushes(x, 1, -30, 12, 3);
        pushes(x, 1, 40, 12, 3 + 12 * 5);
        pushes(x, 1, 15, 0, 3 + 12 * 5);
        pushes(x, 1, -24, 12, 3 + 12 * 5);
        pushes(x, 1, -55, 12, 3);
        pushes(x, 1, -56, 12, 3 + 12 * 5);
        pushes(x, 0, 15, 0, 3);
        pushes(x, 0, 16, 23, 3 + 5);
        pushes(x, 0, -99, 23, 3 + 5);
        due.is("15 nothing is pushed", Due.state(x), before);
        x.set(2, 0, 0);
        x.push(2, 0, -30);
        pushes(x, 2, -99, 0, 3);
        pushes(x, 2, 99, 0, 3 + 24 * 5);
    }

    private static void pushesRefuses() {
        CoatsFitTheMood x = new CoatsFitTheMood();
        for (int none : NONE_SUCH) {
            due.is("15 pushes(" + none + ", 0, 0)", x.pushes(none, 0, 0), BAD);
            due.is("15 pushes(0, 0, " + none + ")", x.pushes(0, 0, none), BAD);
        }
        due.is("15 pushes(0, -100, 0)", x.pushes(0, -100, 0), BAD);
        due.is("15 pushes(0, 100, 0)", x.pushes(0, 100, 0), BAD);
        due.is("15 pushes(0, MIN, 0)", x.pushes(0, Integer.MIN_VALUE, 0), BAD);
        due.is("15 pushes(0, 0, 2)", x.pushes(0, 0, 2), BAD);
        due.is("15 pushes(0, 99, 1)", x.pushes(0, 99, 1), 2376);
    }

    private static void useless() {
        CoatsFitTheMood x = new CoatsFitTheMood();
        due.is("16 USELESS of no COATS", x.all(0), 0);
        x.coat(0, 0, 0);
        x.coat(0, 0, 50);
        x.coat(3, 0, 50);
        x.coat(5, 1, 99);
        due.is("16 USELESS", x.all(0), 1 + 4 + 8);
        x.set(0, 223, 15);
        due.is("16 FITS the last one at the last HOUR", x.all(0), 4 + 8);
        x.set(0, 100, 61);
        due.is("16 FITS another one by its NUMBER", x.all(0), 4);
        x.set(0, 0, 49);
        due.is("16 all FIT somebody", x.all(0), 0);
        for (int i = 4; i < 8; i++) x.coat(0, 0, 99);
        due.is("16 USELESS of eight", x.all(0), 240);
    }

    private static void alike(CoatsFitTheMood x, int two, int far) {
        due.is("16 ALIKE", x.all(1), two);
        due.is("16 how far", x.all(2), far);
    }

    private static void alike() {
        CoatsFitTheMood x = new CoatsFitTheMood();
        alike(x, 1, 0);
        x.set(0, 0, 60);
        alike(x, 12, 0);
        x.set(0, 100, 55);
        alike(x, 1, 5);
        x.set(0, 200, 52);
        alike(x, 12, 3);
        x.set(0, 200, 57);
        alike(x, 12, 2);
        x.set(0, 200, 59);
        alike(x, 2, 1);
        x.set(0, 100, 58);
        alike(x, 2, 1);
        x.set(0, 100, 60);
        x.set(0, 200, 60);
        alike(x, 1, 0);
        x.set(0, 123, 40);
        x.set(0, 223, 60);
        x.set(0, 122, 53);
        alike(x, 2, 10);
        Due.moods(x, 0, 0);
        Due.moods(x, 1, 99);
        Due.moods(x, 2, 0, 99);
        alike(x, 2, 12 * 99);
        Due.moods(x, 2, 99, 0);
        alike(x, 2, 12 * 99);
        int[] whats = {-1, 3, Integer.MAX_VALUE, Integer.MIN_VALUE};
        for (int what : whats) due.is("16 all(" + what + ")", x.all(what), BAD);
    }

    private static void mean(CoatsFitTheMood x, int one, int above, int below) {
        due.is("17 mean(" + one + ", 0)", x.mean(one, 0), above);
        due.is("17 mean(" + one + ", 1)", x.mean(one, 1), below);
    }

    private static void means() {
        CoatsFitTheMood x = new CoatsFitTheMood();
        mean(x, 0, 50, 1);
        x.set(0, 223, 51);
        mean(x, 2, 1201, 24);
        x.set(0, 222, 51);
        mean(x, 2, 601, 12);
        x.set(0, 221, 51);
        mean(x, 2, 401, 8);
        x.set(0, 220, 53);
        mean(x, 2, 201, 4);
        mean(x, 1, 50, 1);
        Due.moods(x, 1, 0);
        mean(x, 1, 0, 1);
        x.set(0, 100, 16);
        mean(x, 1, 2, 3);
        Due.moods(x, 1, 99);
        mean(x, 1, 99, 1);
        for (int none : NONE_SUCH) {
            due.is("17 mean(" + none + ", 0)", x.mean(none, 0), NO);
            due.is("17 mean(0, " + none + ")", x.mean(0, none), NO);
        }
        due.is("17 mean(0, 2)", x.mean(0, 2), NO);
    }
}
