/** Terms 3, and promises 25 to 29: sheet, cell, copy, coats, taken. */
final class EdgesOfTheHost {
    private static final int BAD = -2, NOTHING = -11, OUTSIDE = -12, UNLIKE = -13, BELOW = -14;
    private static final int MOST = Integer.MAX_VALUE, LEAST = Integer.MIN_VALUE;
    private static final int[] NO_SHEETS = {-1, 4, 5, MOST, LEAST};
    private final Edges e;

    EdgesOfTheHost(Edges e) {
        this.e = e;
    }

    void all() {
        rows();
        sorts();
        sheet();
        sheetRefuses();
        cell();
        copy();
        copyRefuses();
        coats();
        coatsAreLeftOut();
        coatsRefuses();
        taken();
    }

    /** What stands at three places of a SHEET of a sort, read as a COAT that goes again. */
    private void three(CoatsFitTheMood x, int sheet, int sort, int at, int kind, int number, int cut) {
        x.image();
        int coat = x.count(0);
        e.is("coats(" + sheet + ", " + sort + ", " + at + ", 1)", x.coats(sheet, sort, at, 1), 1);
        e.is("item " + at, x.told(coat, 4), kind);
        e.is("item " + (at + 1), x.told(coat, 1), number);
        e.is("item " + (at + 2), x.told(coat, 2), cut);
        x.back();
    }

    private void rows() {
        e.says("T3", "SHEETS 0 .. 3 are rows of numbers, or missing (as all are at first):");
        CoatsFitTheMood x = new CoatsFitTheMood();
        x.coat(0, 0, 0);
        for (int sheet = 0; sheet < 4; sheet++) {
            e.is("missing: cell(" + sheet + ", 0, 0)", x.cell(sheet, 0, 0), NOTHING);
            e.is("missing: plan(" + sheet + ", 0, 0)", x.plan(sheet, 0, 0), NOTHING);
        }
        for (int sheet = 0; sheet < 4; sheet++) Due.row(x, sheet, 2, sheet, sheet + 1, sheet + 2);
        for (int sheet = 0; sheet < 4; sheet++) three(x, sheet, 2, 0, sheet, sheet + 1, sheet + 2);
        for (int sheet : NO_SHEETS) {
            e.is("sheet(" + sheet + ", 0, 1)", x.sheet(sheet, 0, 1), BAD);
            e.is("cell(" + sheet + ", 0, 0)", x.cell(sheet, 0, 0), BAD);
        }
    }

    private void sorts() {
        e.says("T3", "of sort 0 bytes, 1 shorts, 2 ints.");
        CoatsFitTheMood x = new CoatsFitTheMood();
        x.coat(0, 0, 0);
        int[] noneIn = {255, 65535, -1};
        for (int sort = 0; sort <= 2; sort++) {
            Due.row(x, 0, sort, noneIn[sort]);
            e.is("NONE among sort " + sort, x.plan(0, 0, 2), 24);
            for (int other = 0; other <= 2; other++) {
                e.is("taken for " + other, x.coats(0, other, 0, 0), other == sort ? 0 : UNLIKE);
            }
        }
        Due.row(x, 0, 1, 255);
        e.is("255 among shorts", x.plan(0, 0, 2), BAD);
        Due.row(x, 0, 2, 65535);
        e.is("65535 among ints", x.plan(0, 0, 2), BAD);
    }

    private void sheet() {
        e.says("25", "A SHEET becomes a row of n of a sort, all 0,");
        CoatsFitTheMood x = new CoatsFitTheMood();
        int[] sizes = {0, 1, 3, 39, 40};
        for (int sort = 0; sort <= 2; sort++) {
            for (int n : sizes) {
                e.is("sheet(3, " + sort + ", " + n + ")", x.sheet(3, sort, n), 1);
                e.is("its last", x.cell(3, n - 1, 5), n == 0 ? OUTSIDE : 1);
                e.is("behind it", x.cell(3, n, 5), OUTSIDE);
            }
            Due.row(x, 3, sort, 5, 9, 99);
            x.sheet(3, sort, 3);
            three(x, 3, sort, 0, 0, 0, 0);
            Due.row(x, 3, sort, 5, 9, 99);
            x.sheet(3, sort, 0);
            x.sheet(3, sort, 40);
            three(x, 3, sort, 0, 0, 0, 0);
            three(x, 3, sort, 37, 0, 0, 0);
        }
        e.says("25", "or missing (sort -1: n does not matter): 1.");
        int[] ns = {0, 1, 40, 41, -1, MOST, LEAST};
        for (int n : ns) {
            x.sheet(1, 2, 4);
            e.is("sheet(1, -1, " + n + ")", x.sheet(1, -1, n), 1);
            e.is("cell(1, 0, 0)", x.cell(1, 0, 0), NOTHING);
            e.is("missing already", x.sheet(1, -1, n), 1);
        }
    }

    private void sheetRefuses() {
        CoatsFitTheMood x = new CoatsFitTheMood();
        x.sheet(0, 1, 3);
        e.says("25", "BAD: no such SHEET, sort; n above 40;");
        for (int sheet : NO_SHEETS) {
            e.is("sheet(" + sheet + ", 0, 1)", x.sheet(sheet, 0, 1), BAD);
            e.is("sheet(" + sheet + ", -1, 1)", x.sheet(sheet, -1, 1), BAD);
            e.is("sheet(" + sheet + ", 0, -1)", x.sheet(sheet, 0, -1), BAD);
        }
        int[] noSorts = {-2, 3, MOST, LEAST};
        for (int sort : noSorts) {
            e.is("sheet(0, " + sort + ", 1)", x.sheet(0, sort, 1), BAD);
            e.is("sheet(0, " + sort + ", -1)", x.sheet(0, sort, -1), BAD);
        }
        for (int sort = 0; sort <= 2; sort++) {
            e.is("sheet(0, " + sort + ", 41)", x.sheet(0, sort, 41), BAD);
            e.is("sheet(0, " + sort + ", MAX)", x.sheet(0, sort, MOST), BAD);
        }
        e.says("25", "-14.");
        for (int sort = 0; sort <= 2; sort++) {
            e.is("sheet(0, " + sort + ", -1)", x.sheet(0, sort, -1), BELOW);
            e.is("sheet(0, " + sort + ", MIN)", x.sheet(0, sort, LEAST), BELOW);
        }
        e.is("it is of three still", x.cell(0, 2, 0), 1);
        e.is("of shorts still", x.coats(0, 1, 0, 1), 1);
    }

    private void cell() {
        CoatsFitTheMood x = new CoatsFitTheMood();
        e.says("26", "Item i of a SHEET becomes v (of bytes, shorts its lowest 8, 16 bits): 1.");
        Due.row(x, 0, 0, 256 + 5, -256 + 9, 0x7fffff00 + 99);
        three(x, 0, 0, 0, 5, 9, 99);
        Due.row(x, 0, 1, 65536 + 5, -65536 + 9, 0x7fff0000 + 99);
        three(x, 0, 1, 0, 5, 9, 99);
        Due.row(x, 0, 2, 5, 9, 99);
        three(x, 0, 2, 0, 5, 9, 99);
        Due.row(x, 0, 1, 256 + 5, 9, 99);
        e.is("shorts: bit 8 stays", x.coats(0, 1, 0, 1), 0);
        Due.row(x, 0, 2, 65536 + 5, 9, 99);
        e.is("ints: bit 16 stays", x.coats(0, 2, 0, 1), 0);
        Due.row(x, 0, 2, LEAST + 5, 9, 99);
        e.is("ints: bit 31 stays", x.coats(0, 2, 0, 1), 0);
        Due.row(x, 0, 0, 128, 9, 99);
        e.is("bytes: 128 is below 0", x.coats(0, 0, 0, 1), 0);
        e.is("cell(0, 0, MAX)", x.cell(0, 0, MOST), 1);
        e.is("cell(0, 0, MIN)", x.cell(0, 0, LEAST), 1);
        three(x, 0, 0, 0, 0, 9, 99);
        e.says("26", "BAD: no such SHEET;");
        for (int sheet : NO_SHEETS) e.is("cell(" + sheet + ", -1, 0)", x.cell(sheet, -1, 0), BAD);
        e.says("26", "-11;");
        e.is("cell(1, 0, 0)", x.cell(1, 0, 0), NOTHING);
        e.is("cell(1, -1, 0)", x.cell(1, -1, 0), NOTHING);
        e.is("cell(1, 40, 0)", x.cell(1, 40, 0), NOTHING);
        e.says("26", "-12.");
        int[] places = {-1, 3, 4, 39, 40, MOST, LEAST};
        for (int i : places) e.is("cell(0, " + i + ", 0)", x.cell(0, i, 0), OUTSIDE);
        x.sheet(0, 0, 0);
        e.is("cell(0, 0, 0) of none", x.cell(0, 0, 0), OUTSIDE);
    }

    private void copy() {
        CoatsFitTheMood x = new CoatsFitTheMood();
        e.says("27", "n numbers of a SHEET, from item i on, come to another one's item j on");
        Due.row(x, 0, 2, 1, 1, 11, 2, 2, 22, 3, 3, 33);
        x.sheet(1, 2, 9);
        e.is("copy(0, 3, 1, 6, 3)", x.copy(0, 3, 1, 6, 3), 3);
        three(x, 1, 2, 6, 2, 2, 22);
        three(x, 1, 2, 3, 0, 0, 0);
        three(x, 0, 2, 3, 2, 2, 22);
        e.is("copy(0, 8, 1, 2, 1)", x.copy(0, 8, 1, 2, 1), 1);
        three(x, 1, 2, 0, 0, 0, 33);
        Due.row(x, 2, 1, 5, 9, 99);
        x.sheet(3, 1, 3);
        e.is("shorts", x.copy(2, 0, 3, 0, 3), 3);
        three(x, 3, 1, 0, 5, 9, 99);
        Due.row(x, 2, 0, 5, 9, 99);
        x.sheet(3, 0, 3);
        e.is("bytes", x.copy(2, 0, 3, 0, 3), 3);
        three(x, 3, 0, 0, 5, 9, 99);
        e.says("27", "(as they were): n.");
        e.is("forth: copy(0, 0, 0, 3, 6)", x.copy(0, 0, 0, 3, 6), 6);
        three(x, 0, 2, 0, 1, 1, 11);
        three(x, 0, 2, 3, 1, 1, 11);
        three(x, 0, 2, 6, 2, 2, 22);
        Due.row(x, 0, 2, 1, 1, 11, 2, 2, 22, 3, 3, 33);
        e.is("back: copy(0, 3, 0, 0, 6)", x.copy(0, 3, 0, 0, 6), 6);
        three(x, 0, 2, 0, 2, 2, 22);
        three(x, 0, 2, 3, 3, 3, 33);
        three(x, 0, 2, 6, 3, 3, 33);
        e.is("onto itself", x.copy(0, 0, 0, 0, 9), 9);
        three(x, 0, 2, 0, 2, 2, 22);
        e.is("none", x.copy(0, 0, 1, 0, 0), 0);
        e.is("none, at both ends", x.copy(0, 9, 1, 9, 0), 0);
        x.sheet(2, 2, 40);
        x.sheet(3, 2, 40);
        e.is("40", x.copy(2, 0, 3, 0, 40), 40);
        x.sheet(2, 2, 0);
        e.is("none of none", x.copy(2, 0, 2, 0, 0), 0);
    }

    private void copyRefuses() {
        CoatsFitTheMood x = new CoatsFitTheMood();
        x.sheet(0, 0, 5);
        x.sheet(1, 0, 3);
        x.sheet(2, 1, 5);
        e.says("27", "BAD: no such SHEET;");
        for (int sheet : NO_SHEETS) {
            e.is("copy(" + sheet + ", 0, 0, 0, 1)", x.copy(sheet, 0, 0, 0, 1), BAD);
            e.is("copy(0, 0, " + sheet + ", 0, 1)", x.copy(0, 0, sheet, 0, 1), BAD);
            e.is("copy(3, -1, " + sheet + ", 0, 1)", x.copy(3, -1, sheet, 0, 1), BAD);
            e.is("copy(" + sheet + ", 0, 3, -1, 1)", x.copy(sheet, 0, 3, -1, 1), BAD);
        }
        e.says("27", "-11;");
        e.is("copy(3, 0, 0, 0, 1)", x.copy(3, 0, 0, 0, 1), NOTHING);
        e.is("copy(0, 0, 3, 0, 1)", x.copy(0, 0, 3, 0, 1), NOTHING);
        e.is("copy(3, 0, 3, 0, 0)", x.copy(3, 0, 3, 0, 0), NOTHING);
        e.is("copy(3, -1, 2, -1, -1)", x.copy(3, -1, 2, -1, -1), NOTHING);
        e.says("27", "-13: they are of unlike sorts;");
        e.is("copy(0, 0, 2, 0, 1)", x.copy(0, 0, 2, 0, 1), UNLIKE);
        e.is("copy(2, 0, 0, 0, 0)", x.copy(2, 0, 0, 0, 0), UNLIKE);
        e.is("copy(2, -1, 0, 9, -1)", x.copy(2, -1, 0, 9, -1), UNLIKE);
        e.says("27", "-12 (also with n below 0).");
        int[][] outside = {{0, 0, -1}, {0, 0, LEAST}, {3, 1, -1}, {-1, 0, 1}, {0, -1, 1}, {5, 0, 1}, {6, 0, 0}, {0, 3, 1}, {0, 4, 0},
            {3, 0, 3}, {0, 0, 4}, {0, 1, 3}, {-1, 0, 0}, {0, -1, 0}, {MOST, 0, 1}, {0, MOST, 1}, {1, 1, MOST}, {MOST, MOST, MOST},
            {LEAST, 0, 1}, {0, LEAST, 1}, {LEAST, LEAST, LEAST}};
        for (int[] o : outside) {
            e.is("copy(0, " + o[0] + ", 1, " + o[1] + ", " + o[2] + ")", x.copy(0, o[0], 1, o[1], o[2]), OUTSIDE);
        }
        e.is("copy(0, 2, 1, 0, 3)", x.copy(0, 2, 1, 0, 3), 3);
        e.is("copy(0, 5, 1, 3, 0)", x.copy(0, 5, 1, 3, 0), 0);
    }

    private void coats() {
        e.says("28", "COATS by a SHEET that is taken for one of a sort:");
        for (int sort = 0; sort <= 2; sort++) {
            CoatsFitTheMood x = new CoatsFitTheMood();
            Due.row(x, 2, sort, 5, 9, 99);
            e.is("coats(2, " + sort + ", 0, 1)", x.coats(2, sort, 0, 1), 1);
            e.is("KIND", x.told(0, 4), 5);
            e.is("NUMBER", x.told(0, 1), 9);
            e.is("CUT", x.told(0, 2), 99);
            e.is("WORN", x.told(0, 3), 0);
        }
        e.says("28", "from one on, three by three (as of coat()), n of them (0 .. 8): how many came");
        CoatsFitTheMood x = new CoatsFitTheMood();
        int[] row = new int[40];
        for (int i = 1; i < 40; i++) row[i] = (i - 1) / 3 % 6;
        Due.row(x, 0, 0, row);
        e.is("coats(0, 0, 1, 0)", x.coats(0, 0, 1, 0), 0);
        e.is("coats(0, 0, 1, 2)", x.coats(0, 0, 1, 2), 2);
        e.is("coats(0, 0, 37, 1)", x.coats(0, 0, 37, 1), 1);
        e.is("coats(0, 0, 3, 1)", x.coats(0, 0, 3, 1), 1);
        int[] kinds = {0, 1, 0, 0};
        int[] numbers = {0, 1, 0, 1};
        for (int i = 0; i < 4; i++) {
            e.is("KIND " + i, x.told(i, 4), kinds[i]);
            e.is("NUMBER " + i, x.told(i, 1), numbers[i]);
        }
        CoatsFitTheMood y = new CoatsFitTheMood();
        Due.row(y, 0, 0, row);
        e.is("coats(0, 0, 16, 8)", y.coats(0, 0, 16, 8), 8);
        for (int i = 0; i < 8; i++) e.is("KIND " + i, y.told(i, 4), (i + 5) % 6);
    }

    private void coatsAreLeftOut() {
        e.says("28", "(others are left out).");
        CoatsFitTheMood x = new CoatsFitTheMood();
        int[][] bad = {{-1, 0, 0}, {6, 0, 0}, {0, -1, 0}, {0, 10, 0}, {0, 0, -1}, {0, 0, 100}};
        for (int[] b : bad) {
            Due.row(x, 0, 2, b[0], b[1], b[2], 5, 9, 99);
            x.image();
            e.is("coats(0, 2, 0, 1) of " + b[0] + ", " + b[1] + ", " + b[2], x.coats(0, 2, 0, 1), 0);
            e.is("coats(0, 2, 0, 2) of " + b[0] + ", " + b[1] + ", " + b[2], x.coats(0, 2, 0, 2), 1);
            e.is("the other one's KIND", x.told(0, 4), 5);
            x.back();
        }
        for (int i = 0; i < 6; i++) x.coat(0, 0, 0);
        Due.row(x, 0, 2, 1, 1, 1, 9, 9, 9, 2, 2, 2, 3, 3, 3, 4, 4, 4);
        e.is("room for two of four", x.coats(0, 2, 0, 5), 2);
        e.is("the seventh", x.told(6, 4), 1);
        e.is("the eighth", x.told(7, 4), 2);
        e.is("no room", x.coats(0, 2, 0, 5), 0);
        e.is("count(0)", x.count(0), 8);
    }

    private void coatsRefuses() {
        CoatsFitTheMood x = new CoatsFitTheMood();
        x.sheet(0, 1, 10);
        e.says("28", "BAD: no such SHEET, sort, n;");
        for (int sheet : NO_SHEETS) e.is("coats(" + sheet + ", 1, 0, 1)", x.coats(sheet, 1, 0, 1), BAD);
        int[] noSorts = {-1, 3, MOST, LEAST};
        for (int sort : noSorts) {
            e.is("coats(0, " + sort + ", 0, 1)", x.coats(0, sort, 0, 1), BAD);
            e.is("coats(1, " + sort + ", 0, 1)", x.coats(1, sort, 0, 1), BAD);
        }
        int[] noSizes = {-1, 9, MOST, LEAST};
        for (int n : noSizes) {
            e.is("coats(0, 1, 0, " + n + ")", x.coats(0, 1, 0, n), BAD);
            e.is("coats(0, 0, 0, " + n + ")", x.coats(0, 0, 0, n), BAD);
            e.is("coats(1, 0, 0, " + n + ")", x.coats(1, 0, 0, n), BAD);
        }
        e.says("28", "-13;");
        for (int sort = 0; sort <= 2; sort += 2) {
            e.is("coats(0, " + sort + ", 0, 1)", x.coats(0, sort, 0, 1), UNLIKE);
            e.is("coats(0, " + sort + ", 0, 0)", x.coats(0, sort, 0, 0), UNLIKE);
            e.is("coats(0, " + sort + ", -1, 8)", x.coats(0, sort, -1, 8), UNLIKE);
        }
        e.says("28", "-11;");
        for (int sort = 0; sort <= 2; sort++) {
            e.is("coats(1, " + sort + ", 0, 1)", x.coats(1, sort, 0, 1), NOTHING);
            e.is("coats(1, " + sort + ", 0, 0)", x.coats(1, sort, 0, 0), NOTHING);
            e.is("coats(1, " + sort + ", -1, 8)", x.coats(1, sort, -1, 8), NOTHING);
        }
        e.says("28", "-12: what stood ahead came.");
        int[] froms = {-1, -3, 8, 9, 10, 40, MOST, MOST - 2, LEAST};
        for (int from : froms) e.is("coats(0, 1, " + from + ", 1)", x.coats(0, 1, from, 1), OUTSIDE);
        e.is("none came", x.count(0), 0);
        e.is("coats(0, 1, 7, 1)", x.coats(0, 1, 7, 1), 1);
        e.is("coats(0, 1, 0, 4)", x.coats(0, 1, 0, 4), OUTSIDE);
        e.is("three came", x.count(0), 4);
        e.is("coats(0, 1, 7, 2)", x.coats(0, 1, 7, 2), OUTSIDE);
        e.is("one came", x.count(0), 5);
        e.is("coats(0, 1, -2, 3)", x.coats(0, 1, -2, 3), OUTSIDE);
        e.is("none came", x.count(0), 5);
        e.is("coats(0, 1, 10, 0): no place is looked at", x.coats(0, 1, 10, 0), 0);
    }

    private void taken() {
        e.says("29", "A COAT taken for one of KIND k (0 .. 5), or one under that one (also by others between): its NUMBER.");
        CoatsFitTheMood x = new CoatsFitTheMood();
        for (int kind = 0; kind < 6; kind++) x.coat(kind, 9 - kind, 0);
        int[][] under = {{0, 0}, {1, 1}, {1, 0}, {2, 2}, {2, 0}, {3, 3}, {3, 1}, {3, 0}, {4, 4}, {4, 2}, {4, 0}, {5, 5}, {5, 0}};
        for (int[] u : under) e.is("taken(" + u[0] + ", " + u[1] + ")", x.taken(u[0], u[1]), 9 - u[0]);
        x.set(1, 3, 0);
        e.is("its NUMBER now", x.taken(3, 0), 0);
        e.says("29", "BAD: k;");
        int[] noKinds = {-1, 6, 7, MOST, LEAST};
        for (int k : noKinds) {
            e.is("taken(0, " + k + ")", x.taken(0, k), BAD);
            e.is("taken(6, " + k + ")", x.taken(6, k), BAD);
        }
        e.says("29", "-11: no such COAT;");
        int[] noCoats = {-1, 6, 7, 8, MOST, LEAST};
        for (int coat : noCoats) for (int k = 0; k < 6; k++) e.is("taken(" + coat + ", " + k + ")", x.taken(coat, k), NOTHING);
        e.says("29", "-13.");
        int[][] apart = {{0, 1}, {0, 2}, {0, 3}, {0, 4}, {0, 5}, {1, 2}, {1, 3}, {1, 4}, {1, 5}, {2, 1}, {2, 3}, {2, 4}, {2, 5},
            {3, 2}, {3, 4}, {3, 5}, {4, 1}, {4, 3}, {4, 5}, {5, 1}, {5, 2}, {5, 3}, {5, 4}};
        for (int[] a : apart) e.is("taken(" + a[0] + ", " + a[1] + ")", x.taken(a[0], a[1]), UNLIKE);
    }
}
