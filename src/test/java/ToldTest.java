/** Promises 18 to 24: tells, film, drawn, chance, image, back, count. */
public final class ToldTest {
    private static final Due due = new Due("ToldTest");
    private static final int BAD = -2, STATE = -3, NOTHING = -11, NONE = -1;
    private static final long NO = -4611686018427387904L;
    private static final int ALL_HOURS = (1 << 24) - 1;
    private static final int[] NONE_SUCH = {-1, 24, Integer.MAX_VALUE, Integer.MIN_VALUE};

    public static void main(String[] args) {
        tellsOfACoat();
        tellsOfOthers();
        tellsOfTextsAndHours();
        tellsOfWorn();
        tellsRefuses();
        films();
        filmRefuses();
        draws();
        chances();
        imageKeeps();
        imageOfOtherCoats();
        counts();
        due.end();
    }

    private static void tells(CoatsFitTheMood x, int coat, int hour, int... answers) {
        for (int what = 0; what < answers.length; what++) {
            due.is("18 tells(0, " + coat + ", " + hour + ", " + what + ")", x.tells(0, coat, hour, what), answers[what]);
        }
    }

    /** A row of n: 1 from .. to, else 0. */
    private static void span(CoatsFitTheMood x, int sort, int n, int from, int to) {
        int[] row = new int[n];
        for (int i = 0; i < n; i++) row[i] = i >= from && i <= to ? 1 : 0;
        Due.row(x, 0, sort, row);
    }

    private static void tellsOfACoat() {
        CoatsFitTheMood x = new CoatsFitTheMood();
        x.coat(0, 5, 20);
        for (int sort = 0; sort <= 2; sort++) {
            span(x, sort, 40, 5, 35);
            // A FALSE of NUMBER 5 FITS 5, 15, 25, 35 besides, which lie inside.
            tells(x, 0, 0, NONE, 1 + 32, 1023, 1, 20, 100, 0, 1, ALL_HOURS);
        }
        x.set(1, 0, 0);
        tells(x, 0, 23, NONE, 1, 1023, 1, 20, 100, 0, 1, ALL_HOURS);
        x.set(2, 0, 21);
        tells(x, 0, 0, 5, 0, 0, 1, 20, 0, NONE, 0, 0);
        x.set(2, 0, 20);
        x.cell(0, 39, 1);
        tells(x, 0, 0, 39, 0, 0, 0, NONE, 0, NONE, 0, 0);
        x.cell(0, 39, 0);
        x.cell(0, 20, 2);
        tells(x, 0, 0, 20, 0, 0, 0, NONE, 0, NONE, 0, 0);
        x.cell(0, 20, -1);
        tells(x, 0, 0, 20, 0, 0, 0, NONE, 0, NONE, 0, 0);
        x.cell(0, 0, 1);
        tells(x, 0, 0, 0);
        span(x, 0, 10, 0, -1);
        tells(x, 0, 0, 5, 2 + 8 + 16, 0, 75, 25);
        x.sheet(0, 2, 0);
        tells(x, 0, 0, NONE, 63, 1023, 100, 0, 100, 0, 1, ALL_HOURS);
    }

    private static void tellsOfOthers() {
        CoatsFitTheMood x = new CoatsFitTheMood();
        x.coat(1, 3, 20);
        x.coat(5, 3, 99);
        x.coat(4, 3, 99);
        span(x, 0, 40, 13, 27);
        tells(x, 0, 0, NONE, 2 + 8, 1023, 1, 20, 100, 0, 1, ALL_HOURS);
        int[] row = new int[40];
        for (int i = 3; i < 40; i += 10) row[i] = 1;
        Due.row(x, 0, 0, row);
        tells(x, 1, 0, NONE, 32, 8, 45, 55, 100, 0, 1, ALL_HOURS);
        span(x, 0, 40, 0, 39);
        tells(x, 2, 0, NONE, 16, 1023, 35, 65, 100, 0, 1, ALL_HOURS);
    }

    private static void tellsOfTextsAndHours() {
        CoatsFitTheMood x = new CoatsFitTheMood();
        x.coat(0, 0, 10);
        Due.rule(x, "eases hour; fines 5; costs 3;");
        Due.text(x, "eases 4; fines 9; costs 9;");
        Due.text(x, "eases 7 - 3; fines 8; costs 8;");
        span(x, 1, 40, 6, 14);
        tells(x, 0, 4, NONE, 1, 1023, 1, 10, 100, 0, 2 + 4 + 8, 1 << 4);
        tells(x, 0, 5, 5, 0, 0, 0, NONE, 0, NONE, 4 + 8, 1 << 4);
        x.force(2);
        tells(x, 0, 4, NONE, 1, 1023, 1, 10, 100, 0, 2 + 4 + 8, ALL_HOURS);
        x.force(1);
        span(x, 1, 16, 0, 15);
        tells(x, 0, 23, NONE, 1 + 2 + 4 + 8 + 32, 1023, 24, 0, 100, 0, 1 + 2, ALL_HOURS - 1023);
        x.force(0);
        due.is("18 THE RULE stays", x.count(4), 0);
    }

    private static void tellsOfWorn() {
        CoatsFitTheMood x = new CoatsFitTheMood();
        x.coat(0, 0, 10);
        x.set(3, 0, 4);
        Due.rule(x, "eases worn; fines 5; costs 3;");
        span(x, 0, 40, 6, 14);
        tells(x, 0, 0, NONE, 1, 1023, 1, 10, 1, 4);
        x.set(3, 0, 500);
        tells(x, 0, 0, 0, 0, 0, 0, NONE, 1, 4);
        span(x, 0, 40, 0, 39);
        tells(x, 0, 0, NONE, 1 + 2 + 4 + 8 + 32, 1023, 100, 0, 71, 29);
        due.is("18 nothing is worn", x.told(0, 3), 500);
        due.is("18 nothing is cut", x.told(0, 2), 10);
        due.is("18 nothing is numbered", x.told(0, 1), 0);
        due.is("18 of the same KIND", x.told(0, 4), 0);
        span(x, 0, 11, 10, 10);
        tells(x, 0, 0, 0, 0, 0, 0, NONE, 1, 0);
        Due.rule(x, "eases worn - 90; fines 5; costs 3;");
        span(x, 0, 40, 1, 19);
        tells(x, 0, 0, 0, 0, 0, 0, NONE, 1, 99);
        Due.rule(x, "eases worn - 91; fines 5; costs 3;");
        tells(x, 0, 0, 0, 0, 0, 0, NONE, 0, NONE);
    }

    private static void tellsRefuses() {
        CoatsFitTheMood x = new CoatsFitTheMood();
        x.sheet(0, 0, 3);
        due.is("18 tells without COATS", x.tells(0, 0, 0, 0), BAD);
        x.coat(0, 0, 0);
        for (int none : NONE_SUCH) {
            due.is("18 tells(" + none + ", 0, 0, 0)", x.tells(none, 0, 0, 0), BAD);
            due.is("18 tells(0, " + none + ", 0, 0)", x.tells(0, none, 0, 0), BAD);
            due.is("18 tells(0, 0, " + none + ", 0)", x.tells(0, 0, none, 0), BAD);
            due.is("18 tells(0, 0, 0, " + none + ")", x.tells(0, 0, 0, none), BAD);
        }
        due.is("18 tells(4, 0, 0, 0)", x.tells(4, 0, 0, 0), BAD);
        due.is("18 tells(0, 1, 0, 0)", x.tells(0, 1, 0, 0), BAD);
        due.is("18 tells(0, 0, 0, 9)", x.tells(0, 0, 0, 9), BAD);
        for (int what = 0; what <= 8; what++) due.is("18 missing, " + what, x.tells(1, 0, 0, what), NOTHING);
        due.is("18 BAD is ahead of -11", x.tells(1, 1, 0, 0), BAD);
        due.is("18 BAD is ahead of -11", x.tells(1, 0, 24, 0), BAD);
        due.is("18 BAD is ahead of -11", x.tells(1, 0, 0, 9), BAD);
    }

    private static void films() {
        CoatsFitTheMood x = new CoatsFitTheMood();
        x.coat(0, 0, 20);
        x.coat(0, 0, 0);
        x.sheet(0, 2, 1);
        due.is("19 film(0, 0, 0, 40)", x.film(0, 0, 0, 40), 31);
        due.is("19 40 items", x.cell(0, 39, 0), 1);
        due.is("19 as it FITS", x.tells(0, 0, 0, 0), NONE);
        due.is("19 the least such CUT", x.tells(0, 0, 0, 4), 20);
        due.is("19 one such CUT", x.tells(0, 0, 0, 3), 1);
        x.sheet(1, 0, 40);
        due.is("19 bytes", x.copy(0, 0, 1, 0, 40), 40);
        due.is("19 film(0, 1, 0, 16)", x.film(0, 1, 0, 16), 16);
        due.is("19 16 items", x.cell(0, 16, 0), -12);
        due.is("19 film(0, 0, 0, 6)", x.film(0, 0, 0, 6), 1);
        due.is("19 film(0, 0, 0, 5)", x.film(0, 0, 0, 5), 0);
        due.is("19 film(3, 0, 0, 0)", x.film(3, 0, 0, 0), 0);
        due.is("19 a row of none, not missing", x.cell(3, 0, 0), -12);
        Due.rule(x, "eases hour; fines 0; costs 0;");
        due.is("19 at HOUR 0", x.film(0, 0, 0, 40), 1);
        due.is("19 at HOUR 23", x.film(0, 0, 23, 40), 40);
        due.is("19 at HOUR 9", x.film(0, 0, 9, 40), 19);
    }

    private static void filmRefuses() {
        CoatsFitTheMood x = new CoatsFitTheMood();
        due.is("19 film without COATS", x.film(0, 0, 0, 1), BAD);
        x.coat(0, 0, 0);
        for (int none : NONE_SUCH) {
            due.is("19 film(" + none + ", 0, 0, 1)", x.film(none, 0, 0, 1), BAD);
            due.is("19 film(0, " + none + ", 0, 1)", x.film(0, none, 0, 1), BAD);
            due.is("19 film(0, 0, " + none + ", 1)", x.film(0, 0, none, 1), BAD);
        }
        due.is("19 film(4, 0, 0, 1)", x.film(4, 0, 0, 1), BAD);
        due.is("19 film(0, 1, 0, 1)", x.film(0, 1, 0, 1), BAD);
        due.is("19 film(0, 0, 0, -1)", x.film(0, 0, 0, -1), BAD);
        due.is("19 film(0, 0, 0, 41)", x.film(0, 0, 0, 41), BAD);
        due.is("19 film(0, 0, 0, MIN)", x.film(0, 0, 0, Integer.MIN_VALUE), BAD);
        due.is("19 film(0, 0, 0, MAX)", x.film(0, 0, 0, Integer.MAX_VALUE), BAD);
        due.is("19 a refusal makes no SHEET", x.cell(0, 0, 0), NOTHING);
    }

    /** A COAT cut for 0 that is fined each MOOD: CHEAP is the MOODS drawn, together. */
    private static CoatsFitTheMood sums() {
        CoatsFitTheMood x = new CoatsFitTheMood();
        x.coat(0, 0, 0);
        Due.rule(x, "eases 0; fines mood; costs 0;");
        return x;
    }

    private static void draws() {
        CoatsFitTheMood x = sums();
        int[] seeds = {0, 1, 2, -1, -2, 42, 2147483647, -2147483648, 123456789};
        int[] together = {960, 929, 1281, 1098, 1338, 1145, 1182, 960, 1481};
        long before = Due.state(x);
        for (int i = 0; i < seeds.length; i++) {
            for (int one = 0; one < 3; one++) due.is("20 drawn(" + seeds[i] + ", " + one + ")", x.drawn(seeds[i], one), together[i]);
        }
        due.is("20 nothing is set", Due.state(x), before);
        due.is("20 drawn(0, -1)", x.drawn(0, -1), BAD);
        due.is("20 drawn(0, 3)", x.drawn(0, 3), BAD);
        due.is("20 drawn(0, MIN)", x.drawn(0, Integer.MIN_VALUE), BAD);
        due.is("20 without COATS", new CoatsFitTheMood().drawn(5, 0), 2376);
        // By seed 1 the first MOODS are 27, 16, 78, 1: by HOUR 2 the COAT FITS none of them, by HOUR 3 MOOD 1.
        Due.rule(x, "eases hour = 2; fines mood * (hour < 4); costs 0;");
        due.is("20 HOUR by HOUR", x.drawn(1, 0), 27 + 16 + 78 + 1);
        Due.rule(x, "eases hour = 3; fines mood * (hour < 4); costs 0;");
        due.is("20 HOUR by HOUR", x.drawn(1, 0), 27 + 16 + 78);
    }

    private static void chance(CoatsFitTheMood x, int seed, int m, int k, int above, int below) {
        due.is("21 chance(" + seed + ", " + m + ", 1, " + k + ", 0)", x.chance(seed, m, 1, k, 0), above);
        due.is("21 chance(" + seed + ", " + m + ", 1, " + k + ", 1)", x.chance(seed, m, 1, k, 1), below);
    }

    private static void chances() {
        CoatsFitTheMood x = sums();
        // Seeds 0 .. 9: 960, 929, 1281, 1234, 1085, 950, 1218, 1061, 915, 1095.
        chance(x, 0, 10, 914, 0, 1);
        chance(x, 0, 10, 915, 1, 10);
        chance(x, 0, 10, 929, 1, 5);
        chance(x, 0, 10, 959, 3, 10);
        chance(x, 0, 10, 960, 2, 5);
        chance(x, 0, 10, 1080, 1, 2);
        chance(x, 0, 10, 1281, 1, 1);
        chance(x, 0, 10, 9999, 1, 1);
        chance(x, 0, 10, 0, 0, 1);
        chance(x, 0, 1, 959, 0, 1);
        chance(x, 0, 1, 960, 1, 1);
        chance(x, 0, 3, 960, 2, 3);
        chance(x, 1, 3, 960, 1, 3);
        // Seeds 2147483646, 2147483647, -2147483648, -2147483647: 1246, 1182, 960, 805.
        chance(x, 2147483646, 4, 804, 0, 1);
        chance(x, 2147483646, 4, 960, 1, 2);
        chance(x, 2147483646, 4, 1182, 3, 4);
        int[] ms = {-1, 0, 11, Integer.MAX_VALUE, Integer.MIN_VALUE};
        for (int m : ms) due.is("21 chance(0, " + m + ", 0, 0, 0)", x.chance(0, m, 0, 0, 0), NO);
        int[] others = {-1, 3, Integer.MAX_VALUE, Integer.MIN_VALUE};
        for (int other : others) {
            due.is("21 chance(0, 1, " + other + ", 0, 0)", x.chance(0, 1, other, 0, 0), NO);
            due.is("21 chance(0, 1, 0, 0, " + other + ")", x.chance(0, 1, 0, 0, other), NO);
        }
        due.is("21 chance(0, 1, 0, 0, 2)", x.chance(0, 1, 0, 0, 2), NO);
        int[] ks = {-1, 10000, Integer.MAX_VALUE, Integer.MIN_VALUE};
        for (int k : ks) due.is("21 chance(0, 1, 0, " + k + ", 0)", x.chance(0, 1, 0, k, 0), NO);
    }

    private static void imageKeeps() {
        CoatsFitTheMood x = new CoatsFitTheMood();
        due.is("23 back() without THE IMAGE", x.back(), STATE);
        x.coat(1, 2, 3);
        x.coat(4, 5, 6);
        x.set(3, 1, 77);
        x.set(0, 223, 9);
        Due.rule(x, "eases 1; fines 2; costs 3;");
        due.is("22 image()", x.image(), 2);
        long before = Due.state(x);
        x.set(1, 0, 9);
        x.set(2, 1, 99);
        x.set(3, 1, 5);
        x.push(2, 0, 50);
        x.push(0, 0, -50);
        x.coat(0, 0, 0);
        x.force(0);
        x.sheet(0, 0, 4);
        due.is("23 back()", x.back(), 2);
        due.is("23 MOODS", x.told(223, 0), 9);
        due.is("23 MOODS", x.told(0, 0), 50);
        due.is("23 NUMBERS", x.told(0, 1), 2);
        due.is("23 CUTS", x.told(1, 2), 6);
        due.is("23 WORN", x.told(1, 3), 77);
        due.is("23 THE RULE", x.count(4), 1);
        due.is("23 COATS that came since go", x.count(0), 2);
        due.is("23 all of it", Due.state(x), before);
        due.is("23 a SHEET stays", x.cell(0, 3, 0), 1);
        x.push(1, 0, 3);
        due.is("23 back() anew", x.back(), 2);
        due.is("23 all of it anew", Due.state(x), before);
        Due.text(x, "eases 1; fines 2; costs 3;");
        Due.feed(x, "ab");
        x.force(2);
        x.back();
        due.is("23 TEXTS stay", x.count(2), 3);
        due.is("23 THE TAPE stays", x.count(3), 2);
        due.is("23 THE RULE goes back", x.count(4), 1);
        x.coat(5, 5, 5);
        due.is("22 another image()", x.image(), 3);
        x.set(1, 2, 1);
        due.is("23 back() to it", x.back(), 3);
        due.is("23 its COAT", x.told(2, 1), 5);
        due.is("23 its KIND", x.told(2, 4), 5);
    }

    private static void imageOfOtherCoats() {
        CoatsFitTheMood x = new CoatsFitTheMood();
        due.is("22 image() without COATS", x.image(), 0);
        x.coat(3, 3, 3);
        due.is("23 back()", x.back(), 0);
        due.is("23 no COAT is left", x.told(0, 1), BAD);
        due.is("23 another COAT comes first", x.coat(2, 1, 0), 0);
        due.is("23 it is of its own KIND", x.told(0, 4), 2);
        x.set(3, 0, 5);
        x.image();
        for (int i = 1; i < 8; i++) x.coat(0, 0, 0);
        due.is("23 back() from a full drawer", x.back(), 1);
        due.is("23 room again", x.coat(1, 1, 1), 1);
        due.is("23 WORN as it was kept", x.count(1), 5);
    }

    private static void counts() {
        CoatsFitTheMood x = new CoatsFitTheMood();
        x.coat(0, 0, 50);
        x.coat(0, 0, 50);
        x.set(3, 0, 999);
        x.set(3, 1, 998);
        Due.text(x, "eases 1; fines 2; costs 3;");
        Due.text(x, "eases 1; fines 2; costs 3;");
        x.force(2);
        Due.feed(x, "abc");
        due.is("24 COATS", x.count(0), 2);
        due.is("24 WORN", x.count(1), 1997);
        due.is("24 TEXTS", x.count(2), 3);
        due.is("24 THE TAPE", x.count(3), 3);
        due.is("24 THE RULE", x.count(4), 2);
        int[] whats = {-1, 5, Integer.MAX_VALUE, Integer.MIN_VALUE};
        for (int what : whats) due.is("24 count(" + what + ")", x.count(what), BAD);
        x.text();
        due.is("24 THE TAPE behind text()", x.count(3), 0);
    }
}
