/** Terms 2 of what is TOLD, DRAWN and kept, and promises 18 to 24: tells, film, drawn, chance, image, back, count. */
final class EdgesOfTold {
    private static final int BAD = -2, STATE = -3, NOTHING = -11, NONE = -1;
    private static final int MOST = Integer.MAX_VALUE, LEAST = Integer.MIN_VALUE;
    private static final int ALL_HOURS = 16777215;
    private static final long NO = -4611686018427387904L;
    private static final int[] NO_SHEETS = {-1, 4, MOST, LEAST}, NO_PEOPLE = {-1, 3, MOST, LEAST};
    private static final int[] NO_HOURS = {-1, 24, MOST, LEAST}, NO_PARTS = {-1, 2, MOST, LEAST};
    private final Edges e;

    EdgesOfTold(Edges e) {
        this.e = e;
    }

    void all() {
        otherwise();
        kinds();
        numbers();
        cuts();
        worn();
        texts();
        hours();
        drawing();
        seeds();
        anImage();
        tells();
        tellsRefuses();
        film();
        drawn();
        chance();
        image();
        back();
        count();
    }

    /** SHEET 0 tells n MOODS: those from .. to FIT. */
    private static void span(CoatsFitTheMood x, int n, int from, int to) {
        int[] row = new int[n];
        for (int i = 0; i < n; i++) row[i] = i >= from && i <= to ? 1 : 0;
        Due.row(x, 0, 0, row);
    }

    private void told(CoatsFitTheMood x, int what, int due) {
        e.is("tells(0, 0, 0, " + what + ")", x.tells(0, 0, 0, what), due);
    }

    private static CoatsFitTheMood one(int kind, int number, int cut) {
        CoatsFitTheMood x = new CoatsFitTheMood();
        x.coat(kind, number, cut);
        return x;
    }

    private void otherwise() {
        e.says("T2", "TOLD: a SHEET tells whether a COAT FITS (1, 0) MOODS 0, 1, .. at an HOUR (40 at most): the first that is otherwise; NONE;");
        CoatsFitTheMood x = one(0, 0, 20);
        span(x, 40, 5, 35);
        told(x, 0, NONE);
        int[] places = {39, 36, 35, 20, 5, 4, 1, 0};
        for (int mood : places) {
            x.cell(0, mood, mood >= 5 && mood <= 35 ? 0 : 1);
            told(x, 0, mood);
        }
        x.cell(0, 0, 0);
        told(x, 0, 1);
        int[] others = {2, -1, 127, -128};
        for (int v : others) {
            span(x, 40, 5, 35);
            x.cell(0, 20, v);
            told(x, 0, 20);
            x.cell(0, 3, v);
            told(x, 0, 3);
        }
        Due.row(x, 0, 2, 0, 0, 0, 0, 0, 257);
        told(x, 0, 5);
        Due.row(x, 0, 2, 0, 0, 0, 0, 256, 1);
        told(x, 0, 4);
        Due.row(x, 0, 1, 0, 0, 0, 0, 0, 1);
        told(x, 0, NONE);
        x.sheet(0, 0, 0);
        told(x, 0, NONE);
        x.sheet(0, 0, 5);
        told(x, 0, NONE);
        x.sheet(0, 0, 6);
        told(x, 0, 5);
        x.sheet(0, 0, 40);
        told(x, 0, 5);
    }

    private void kinds() {
        e.says("T2", "KINDS (bits 0 .. 5),");
        CoatsFitTheMood x = one(0, 5, 20);
        span(x, 40, 5, 35);
        told(x, 1, 1 + 32);
        x.set(1, 0, 4);
        told(x, 1, 1);
        span(x, 40, 13, 27);
        told(x, 1, 2 + 8);
        span(x, 40, 0, 39);
        told(x, 1, 4);
        x.set(2, 0, 99);
        told(x, 1, 16);
        span(x, 40, 0, -1);
        told(x, 1, 1 + 2 + 4 + 8);
        x.set(1, 0, 0);
        x.sheet(0, 0, 0);
        told(x, 1, 63);
        span(x, 40, 3, 3);
        told(x, 1, 0);
        e.is("it is of its KIND still", x.told(0, 4), 0);
    }

    private void numbers() {
        e.says("T2", "NUMBERS (bits 0 .. 9),");
        CoatsFitTheMood x = one(5, 3, 99);
        int[] row = new int[40];
        for (int number = 0; number < 10; number++) {
            for (int i = 0; i < 40; i++) row[i] = i % 10 == number ? 1 : 0;
            Due.row(x, 0, 0, row);
            told(x, 2, 1 << number);
        }
        span(x, 9, 0, -1);
        told(x, 2, 512);
        x.sheet(0, 0, 0);
        told(x, 2, 1023);
        span(x, 40, 0, 39);
        told(x, 2, 0);
        CoatsFitTheMood y = one(0, 3, 20);
        span(y, 40, 5, 35);
        told(y, 2, 1023);
        Due.rule(y, "eases number + 6; fines 0; costs 0;");
        told(y, 2, 512);
        span(y, 40, 14, 26);
        told(y, 2, 1);
        e.is("its NUMBER still", y.told(0, 1), 3);
    }

    private void cuts() {
        e.says("T2", "CUTS (of 0 .. 99: how many, the least),");
        CoatsFitTheMood x = one(0, 0, 50);
        span(x, 40, 5, 35);
        told(x, 3, 1);
        told(x, 4, 20);
        span(x, 40, 0, 15);
        told(x, 3, 1);
        told(x, 4, 0);
        span(x, 16, 0, 15);
        told(x, 3, 16);
        told(x, 4, 0);
        span(x, 40, 0, -1);
        told(x, 3, 45);
        told(x, 4, 55);
        span(x, 1, 0, 0);
        told(x, 3, 16);
        told(x, 4, 0);
        span(x, 1, 1, 1);
        told(x, 3, 84);
        told(x, 4, 16);
        x.sheet(0, 0, 0);
        told(x, 3, 100);
        told(x, 4, 0);
        span(x, 40, 3, 3);
        told(x, 3, 0);
        told(x, 4, NONE);
        Due.rule(x, "eases 99 * (cut = 99); fines 0; costs 0;");
        span(x, 40, 0, 39);
        told(x, 3, 1);
        told(x, 4, 99);
        e.is("its CUT still", x.told(0, 2), 50);
    }

    private void worn() {
        e.says("T2", "WORN (of 0 .. 99: how many, the least),");
        CoatsFitTheMood x = one(0, 0, 20);
        x.set(3, 0, 999);
        span(x, 40, 5, 35);
        told(x, 5, 100);
        told(x, 6, 0);
        Due.rule(x, "eases worn; fines 0; costs 0;");
        told(x, 5, 1);
        told(x, 6, 15);
        told(x, 0, 0);
        span(x, 40, 0, 39);
        told(x, 5, 80);
        told(x, 6, 20);
        Due.rule(x, "eases worn - 84; fines 0; costs 0;");
        span(x, 40, 5, 35);
        told(x, 5, 1);
        told(x, 6, 99);
        Due.rule(x, "eases worn - 85; fines 0; costs 0;");
        told(x, 5, 0);
        told(x, 6, NONE);
        span(x, 40, 20, 20);
        told(x, 5, 86);
        told(x, 6, 0);
        e.is("WORN still", x.told(0, 3), 999);
    }

    private void texts() {
        e.says("T2", "TEXTS (bits), were they THE RULE, by which all would be so;");
        CoatsFitTheMood x = one(0, 0, 20);
        Due.text(x, "eases 14; fines 5; costs 3;");
        Due.text(x, "eases 30 - 15; fines 0; costs 0;");
        span(x, 40, 5, 35);
        told(x, 7, 1 + 4);
        span(x, 40, 6, 34);
        told(x, 7, 2);
        x.force(2);
        told(x, 7, 2);
        x.sheet(0, 0, 0);
        told(x, 7, 7);
        for (int i = 3; i <= 5; i++) Due.text(x, "eases " + i + "; fines 0; costs 0;");
        told(x, 7, 63);
        span(x, 40, 15, 25);
        told(x, 7, 32);
        span(x, 40, 0, 39);
        told(x, 7, 0);
        e.is("THE RULE still", x.count(4), 2);
    }

    private void hours() {
        e.says("T2", "HOURS (bits) at which they would.");
        CoatsFitTheMood x = one(0, 0, 20);
        span(x, 40, 5, 35);
        told(x, 8, ALL_HOURS);
        Due.rule(x, "eases hour; fines 0; costs 0;");
        told(x, 8, 32768);
        e.is("at HOUR 15: the first", x.tells(0, 0, 15, 0), NONE);
        e.is("at HOUR 14: the first", x.tells(0, 0, 14, 0), 5);
        e.is("at HOUR 14: HOURS", x.tells(0, 0, 14, 8), 32768);
        span(x, 40, 20, 20);
        told(x, 8, 1);
        span(x, 40, 0, 39);
        told(x, 8, 15728640);
        span(x, 40, 0, -1);
        told(x, 8, 0);
    }

    /** A COAT cut for 0 that is fined each MOOD: CHEAP COSTS the MOODS, together. */
    private static CoatsFitTheMood sums() {
        CoatsFitTheMood x = one(0, 0, 0);
        Due.rule(x, "eases 0; fines mood; costs 0;");
        return x;
    }

    /** The same of one HOUR alone. */
    private static int moodDrawn(int seed, int hour) {
        CoatsFitTheMood x = one(0, 0, 0);
        Due.rule(x, "eases 0; fines mood * (hour = " + hour + "); costs 0;");
        return x.drawn(seed, 0);
    }

    private void drawing() {
        e.says("T2", "DRAWN by a SEED: MOOD of one HOUR by HOUR would be (z >>> 9) % 100, z being z * 1103515245 + 12345");
        // z of SEED 1: 1103527590, 2524885223 less 2 to the power of 32, and so on.
        e.is("SEED 1, HOUR 0", moodDrawn(1, 0), 27);
        e.is("SEED 1, HOUR 1", moodDrawn(1, 1), 16);
        e.is("SEED 1, HOUR 2", moodDrawn(1, 2), 78);
        e.is("SEED 1, HOUR 3", moodDrawn(1, 3), 1);
        // z of SEED 0: 12345, of which 512 goes 24 times.
        e.is("SEED 0, HOUR 0", moodDrawn(0, 0), 24);
        e.says("T2", "(an int; SEED at first) anew for each: CHEAP.");
        int[] seeds = {0, 1, -1, MOST, LEAST};
        for (int seed : seeds) {
            int all = 0;
            long z = seed & 0xffffffffL;
            for (int hour = 0; hour < 24; hour++) {
                z = (z * 1103515245L + 12345L) & 0xffffffffL;
                all += z / 512 % 100;
                if (hour % 8 == 7) e.is("SEED " + seed + ", HOUR " + hour, moodDrawn(seed, hour), z / 512 % 100);
            }
            e.is("SEED " + seed, sums().drawn(seed, 0), all);
        }
        e.is("without COATS", new CoatsFitTheMood().drawn(1, 0), 24 * 99);
        CoatsFitTheMood x = one(0, 0, 50);
        Due.rule(x, "eases 99; fines 0; costs mood;");
        e.is("put on at HOUR 0", x.drawn(1, 0), 27);
    }

    private void chances(CoatsFitTheMood x, int seed, int m, int k, int above, int below) {
        e.is("chance(" + seed + ", " + m + ", 0, " + k + ", 0)", x.chance(seed, m, 0, k, 0), above);
        e.is("chance(" + seed + ", " + m + ", 0, " + k + ", 1)", x.chance(seed, m, 0, k, 1), below);
    }

    private void seeds() {
        CoatsFitTheMood x = sums();
        e.says("T2", "IN m seeds (1 .. 10),");
        e.is("m 0", x.chance(0, 0, 0, 9999, 0), NO);
        e.is("m 11", x.chance(0, 11, 0, 9999, 0), NO);
        chances(x, 0, 1, 9999, 1, 1);
        chances(x, 0, 10, 9999, 1, 1);
        e.says("T2", "SEED and each 1 more (an int):");
        // By seeds 0 .. 9: 960, 929, 1281, 1234, 1085, 950, 1218, 1061, 915, 1095.
        chances(x, 0, 2, 929, 1, 2);
        chances(x, 2, 2, 929, 0, 1);
        chances(x, 0, 9, 915, 1, 9);
        chances(x, 0, 8, 915, 0, 1);
        chances(x, 9, 1, 1095, 1, 1);
        // By seeds 2147483646, 2147483647, and then -2147483648, -2147483647: 1246, 1182, 960, 805.
        chances(x, MOST, 1, 1181, 0, 1);
        chances(x, MOST, 2, 960, 1, 2);
        chances(x, MOST, 3, 805, 1, 3);
        chances(x, MOST - 1, 4, 1182, 3, 4);
        e.says("T2", "of these those by which that is k (0 .. 9999) or less.");
        chances(x, 0, 1, 959, 0, 1);
        chances(x, 0, 1, 960, 1, 1);
        chances(x, 0, 1, 961, 1, 1);
        chances(x, 0, 1, 0, 0, 1);
        chances(x, 0, 1, 9999, 1, 1);
        e.is("k -1", x.chance(0, 1, 0, -1, 0), NO);
        e.is("k 10000", x.chance(0, 1, 0, 10000, 0), NO);
        CoatsFitTheMood free = one(0, 0, 0);
        Due.rule(free, "eases 99; fines 0; costs 0;");
        chances(free, 0, 10, 0, 1, 1);
    }

    private void anImage() {
        e.says("T2", "AN IMAGE keeps MOODS, NUMBERS, CUTS, WORN, THE RULE (COATS that came since go).");
        CoatsFitTheMood x = new CoatsFitTheMood();
        for (int i = 0; i < 7; i++) x.coat(i % 6, i, 10 * i);
        for (int one = 0; one < 3; one++) for (int hour = 0; hour < 24; hour++) x.set(0, 100 * one + hour, 30 * one + hour);
        for (int i = 0; i < 7; i++) x.set(3, i, 100 * i + 9);
        Due.rule(x, "eases 1; fines 2; costs 4;");
        e.is("image()", x.image(), 7);
        long kept = Due.state(x);
        for (int one = 0; one < 3; one++) x.push(one, 0, 9);
        for (int i = 0; i < 7; i++) for (int what = 1; what <= 3; what++) x.set(what, i, 0);
        x.force(0);
        e.is("coat(5, 5, 5)", x.coat(5, 5, 5), 7);
        e.is("back()", x.back(), 7);
        for (int one = 0; one < 3; one++) {
            for (int hour = 0; hour < 24; hour++) e.is("MOOD", x.told(100 * one + hour, 0), 30 * one + hour);
        }
        for (int i = 0; i < 7; i++) {
            e.is("NUMBER " + i, x.told(i, 1), i);
            e.is("CUT " + i, x.told(i, 2), 10 * i);
            e.is("WORN " + i, x.told(i, 3), 100 * i + 9);
            e.is("KIND " + i, x.told(i, 4), i % 6);
        }
        e.is("THE RULE", x.count(4), 1);
        e.is("the COAT that came since", x.told(7, 1), BAD);
        e.is("all that may be read", Due.state(x), kept);
    }

    private void tells() {
        e.says("18", "TOLD of a COAT at an HOUR: the first that is otherwise (what 0; NONE), KINDS (1), NUMBERS (2), CUTS: how many (3),");
        CoatsFitTheMood x = new CoatsFitTheMood();
        for (int i = 0; i < 7; i++) x.coat(0, 0, 99);
        x.coat(0, 7, 20);
        Due.rule(x, "eases hour - 8; fines 0; costs 0;");
        span(x, 40, 5, 35);
        int[] due = {NONE, 1, 1023, 1, 20, 100, 0, 3, 8388608};
        for (int what = 0; what <= 3; what++) e.is("tells(0, 7, 23, " + what + ")", x.tells(0, 7, 23, what), due[what]);
        e.is("tells(0, 6, 23, 0)", x.tells(0, 6, 23, 0), 5);
        e.is("tells(0, 7, 22, 0)", x.tells(0, 7, 22, 0), 5);
        e.is("tells(0, 7, 22, 3)", x.tells(0, 7, 22, 3), 0);
        e.says("18", "the least (4; NONE), WORN: how many (5), the least (6; NONE), TEXTS (7), HOURS (8).");
        for (int what = 4; what <= 8; what++) e.is("tells(0, 7, 23, " + what + ")", x.tells(0, 7, 23, what), due[what]);
        e.is("tells(0, 7, 22, 4)", x.tells(0, 7, 22, 4), NONE);
        e.is("tells(0, 7, 22, 6)", x.tells(0, 7, 22, 6), NONE);
        e.is("tells(0, 7, 22, 7)", x.tells(0, 7, 22, 7), 1);
        e.is("tells(0, 7, 22, 8)", x.tells(0, 7, 22, 8), 8388608);
    }

    private void tellsRefuses() {
        CoatsFitTheMood x = one(0, 0, 0);
        x.sheet(0, 0, 3);
        e.says("18", "BAD: SHEET, no such COAT, hour, what;");
        for (int sheet : NO_SHEETS) e.is("tells(" + sheet + ", 0, 0, 0)", x.tells(sheet, 0, 0, 0), BAD);
        int[] noCoats = {-1, 1, 7, 8, MOST, LEAST};
        for (int coat : noCoats) e.is("tells(0, " + coat + ", 0, 0)", x.tells(0, coat, 0, 0), BAD);
        for (int hour : NO_HOURS) e.is("tells(0, 0, " + hour + ", 0)", x.tells(0, 0, hour, 0), BAD);
        int[] noWhats = {-1, 9, 10, MOST, LEAST};
        for (int what : noWhats) e.is("tells(0, 0, 0, " + what + ")", x.tells(0, 0, 0, what), BAD);
        e.is("missing: tells(1, 1, 0, 0)", x.tells(1, 1, 0, 0), BAD);
        e.is("missing: tells(1, 0, 24, 0)", x.tells(1, 0, 24, 0), BAD);
        e.is("missing: tells(1, 0, 0, 9)", x.tells(1, 0, 0, 9), BAD);
        e.says("18", "-11.");
        for (int what = 0; what <= 8; what++) e.is("tells(1, 0, 0, " + what + ")", x.tells(1, 0, 0, what), NOTHING);
    }

    private void film() {
        e.says("19", "A SHEET truly becomes whether a COAT FITS MOODS 0, .., n less 1 (n 0 .. 40) at an HOUR (bytes): how many of them it FITS.");
        CoatsFitTheMood x = one(0, 0, 20);
        x.sheet(0, 2, 3);
        int[] many = {0, 0, 0, 0, 0, 0, 1, 2, 3};
        for (int n = 0; n < many.length; n++) e.is("film(0, 0, 0, " + n + ")", x.film(0, 0, 0, n), many[n]);
        e.is("film(0, 0, 0, 0)", x.film(0, 0, 0, 0), 0);
        e.is("none, but not missing", x.cell(0, 0, 0), -12);
        e.is("film(0, 0, 0, 36)", x.film(0, 0, 0, 36), 31);
        e.is("film(0, 0, 0, 37)", x.film(0, 0, 0, 37), 31);
        e.is("film(0, 0, 0, 40)", x.film(0, 0, 0, 40), 31);
        e.is("as it FITS", x.tells(0, 0, 0, 0), NONE);
        e.is("by one CUT", x.tells(0, 0, 0, 3), 1);
        e.is("that one", x.tells(0, 0, 0, 4), 20);
        e.is("its last", x.cell(0, 39, 1), 1);
        e.is("40 of them", x.tells(0, 0, 0, 0), 39);
        x.sheet(1, 0, 40);
        e.is("bytes", x.copy(0, 0, 1, 0, 40), 40);
        Due.rule(x, "eases hour; fines 0; costs 0;");
        e.is("film(0, 0, 0, 40)", x.film(0, 0, 0, 40), 1);
        e.is("film(0, 0, 19, 40)", x.film(0, 0, 19, 40), 39);
        e.is("film(0, 0, 23, 40)", x.film(0, 0, 23, 40), 40);
        e.says("19", "BAD.");
        for (int sheet : NO_SHEETS) e.is("film(" + sheet + ", 0, 0, 1)", x.film(sheet, 0, 0, 1), BAD);
        int[] noCoats = {-1, 1, 7, 8, MOST, LEAST};
        for (int coat : noCoats) e.is("film(2, " + coat + ", 0, 1)", x.film(2, coat, 0, 1), BAD);
        for (int hour : NO_HOURS) e.is("film(2, 0, " + hour + ", 1)", x.film(2, 0, hour, 1), BAD);
        int[] noSizes = {-1, 41, MOST, LEAST};
        for (int n : noSizes) e.is("film(2, 0, 0, " + n + ")", x.film(2, 0, 0, n), BAD);
        e.is("it stays missing", x.cell(2, 0, 0), NOTHING);
    }

    private void drawn() {
        CoatsFitTheMood x = sums();
        e.says("20", "DRAWN.");
        long before = Due.state(x);
        for (int one = 0; one < 3; one++) {
            e.is("drawn(0, " + one + ")", x.drawn(0, one), 960);
            e.is("drawn(1, " + one + ")", x.drawn(1, one), 929);
            e.is("drawn(MIN, " + one + ")", x.drawn(LEAST, one), 960);
            e.is("drawn(MAX, " + one + ")", x.drawn(MOST, one), 1182);
        }
        e.is("nothing is set", Due.state(x), before);
        e.says("20", "BAD.");
        for (int one : NO_PEOPLE) e.is("drawn(0, " + one + ")", x.drawn(0, one), BAD);
    }

    private void chance() {
        CoatsFitTheMood x = sums();
        e.says("21", "IN m seeds: part 0 above, 1 below the line,");
        chances(x, 0, 7, 960, 3, 7);
        chances(x, 0, 3, 960, 2, 3);
        e.is("of another", x.chance(0, 3, 2, 960, 0), 2);
        e.says("21", "in lowest terms.");
        chances(x, 0, 10, 914, 0, 1);
        chances(x, 0, 10, 915, 1, 10);
        chances(x, 0, 10, 929, 1, 5);
        chances(x, 0, 10, 950, 3, 10);
        chances(x, 0, 10, 960, 2, 5);
        chances(x, 0, 10, 1061, 1, 2);
        chances(x, 0, 10, 1085, 3, 5);
        chances(x, 0, 10, 1095, 7, 10);
        chances(x, 0, 10, 1218, 4, 5);
        chances(x, 0, 10, 1234, 9, 10);
        chances(x, 0, 10, 1281, 1, 1);
        chances(x, 0, 9, 950, 1, 3);
        e.says("21", "NO: m, one, k, part.");
        int[] noSeeds = {-1, 0, 11, MOST, LEAST};
        for (int m : noSeeds) e.is("chance(0, " + m + ", 0, 0, 0)", x.chance(0, m, 0, 0, 0), NO);
        for (int one : NO_PEOPLE) e.is("chance(0, 1, " + one + ", 0, 0)", x.chance(0, 1, one, 0, 0), NO);
        int[] noCosts = {-1, 10000, MOST, LEAST};
        for (int k : noCosts) e.is("chance(0, 1, 0, " + k + ", 0)", x.chance(0, 1, 0, k, 0), NO);
        for (int part : NO_PARTS) e.is("chance(0, 1, 0, 0, " + part + ")", x.chance(0, 1, 0, 0, part), NO);
    }

    private void image() {
        e.says("22", "AN IMAGE is kept: how many COATS.");
        CoatsFitTheMood x = new CoatsFitTheMood();
        for (int i = 0; i <= 8; i++) {
            e.is("image() of " + i, x.image(), i);
            x.coat(0, 0, 0);
        }
        x.set(2, 7, 44);
        e.is("another one", x.image(), 8);
        x.set(2, 7, 55);
        x.back();
        e.is("the latest is kept", x.told(7, 2), 44);
    }

    private void back() {
        e.says("23", "All that it keeps is as in THE IMAGE: how many COATS.");
        CoatsFitTheMood x = one(3, 3, 3);
        x.image();
        for (int i = 1; i < 8; i++) x.coat(0, i, 99);
        x.push(2, 23, 9);
        e.is("back()", x.back(), 1);
        e.is("told(223, 0)", x.told(223, 0), 50);
        e.is("count(0)", x.count(0), 1);
        e.is("room again", x.coat(1, 2, 4), 1);
        e.is("the new one's KIND", x.told(1, 4), 1);
        e.is("back() anew", x.back(), 1);
        e.is("it goes, too", x.told(1, 4), BAD);
        // What an image does not keep stays: TEXTS, THE TAPE, SHEETS.
        Due.text(x, "eases 1; fines 2; costs 4;");
        x.force(1);
        x.feed('e');
        x.sheet(2, 1, 7);
        e.is("back() by another RULE", x.back(), 1);
        e.is("THE RULE", x.count(4), 0);
        e.is("TEXTS stay", x.count(2), 2);
        e.is("THE TAPE stays", x.count(3), 1);
        e.is("a SHEET stays", x.cell(2, 6, 0), 1);
        e.is("force(1)", x.force(1), 0);
        CoatsFitTheMood none = new CoatsFitTheMood();
        none.image();
        none.coat(0, 0, 0);
        e.is("back() to none", none.back(), 0);
        e.is("none", none.count(0), 0);
        e.says("23", "STATE: there is none.");
        CoatsFitTheMood y = one(0, 0, 50);
        e.is("back()", y.back(), STATE);
        e.is("nothing goes", y.count(0), 1);
        y.image();
        e.is("back() then", y.back(), 1);
        e.is("back() twice", y.back(), 1);
    }

    private void count() {
        e.says("24", "How many: 0 COATS, 1 HOURS they were WORN, together, 2 TEXTS, 3 bytes of THE TAPE, 4 THE RULE.");
        CoatsFitTheMood x = new CoatsFitTheMood();
        int[] first = {0, 0, 1, 0, 0};
        for (int what = 0; what <= 4; what++) e.is("at first: count(" + what + ")", x.count(what), first[what]);
        for (int i = 0; i < 8; i++) x.coat(0, 0, 50);
        for (int i = 0; i < 8; i++) x.set(3, i, 999 - i);
        for (int i = 1; i <= 5; i++) Due.text(x, "eases 1; fines 2; costs 4;");
        x.force(5);
        for (int i = 0; i < 160; i++) x.feed(0);
        int[] most = {8, 8 * 999 - 28, 6, 160, 5};
        for (int what = 0; what <= 4; what++) e.is("at most: count(" + what + ")", x.count(what), most[what]);
        e.says("24", "BAD.");
        int[] noWhats = {-1, 5, 6, MOST, LEAST};
        for (int what : noWhats) e.is("count(" + what + ")", x.count(what), BAD);
    }
}
