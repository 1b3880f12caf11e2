/** Promises 25 to 29: sheet, cell, copy, coats, taken. */
public final class HostTest {
    private static final Due due = new Due("HostTest");
    private static final int BAD = -2, NOTHING = -11, OUTSIDE = -12, UNLIKE = -13, BELOW = -14;
    private static final int[] NONE_SUCH = {-1, 4, Integer.MAX_VALUE, Integer.MIN_VALUE};

    public static void main(String[] args) {
        sheetsBecome();
        sheetRefuses();
        cellsAreOfTheirSort();
        cellRefuses();
        copies();
        copyRefuses();
        coatsCome();
        coatsAreLeftOut();
        coatsRefuses();
        takenForKinds();
        takenRefuses();
        due.end();
    }

    private static void sheetsBecome() {
        CoatsFitTheMood x = new CoatsFitTheMood();
        for (int sheet = 0; sheet < 4; sheet++) {
            for (int sort = 0; sort <= 2; sort++) {
                due.is("25 sheet(" + sheet + ", " + sort + ", 40)", x.sheet(sheet, sort, 40), 1);
                due.is("25 its last item", x.cell(sheet, 39, 7), 1);
                due.is("25 behind it", x.cell(sheet, 40, 7), OUTSIDE);
                due.is("25 sheet(" + sheet + ", " + sort + ", 0)", x.sheet(sheet, sort, 0), 1);
                due.is("25 nothing in it", x.cell(sheet, 0, 7), OUTSIDE);
            }
            due.is("25 it is missing", x.sheet(sheet, -1, 0), 1);
            due.is("25 missing", x.cell(sheet, 0, 7), NOTHING);
        }
        int[] ns = {-1, 41, Integer.MAX_VALUE, Integer.MIN_VALUE};
        for (int n : ns) {
            x.sheet(1, 0, 5);
            due.is("25 sheet(1, -1, " + n + ")", x.sheet(1, -1, n), 1);
            due.is("25 missing by any n", x.cell(1, 0, 0), NOTHING);
        }
        x.coat(0, 0, 50);
        x.coat(0, 0, 0);
        Due.row(x, 2, 0, 1, 1, 1);
        x.sheet(2, 0, 24);
        due.is("25 all 0", x.plan(2, 0, 0), 3);
        Due.row(x, 2, 2, 5, 9, 99, 1, 2, 3, 4, 5, 6);
        x.sheet(2, 2, 2);
        x.sheet(2, 2, 9);
        due.is("25 all 0 again", x.coats(2, 2, 6, 1), 1);
        due.is("25 its CUT is 0", x.told(2, 2), 0);
        due.is("25 its KIND is 0", x.told(2, 4), 0);
    }

    private static void sheetRefuses() {
        CoatsFitTheMood x = new CoatsFitTheMood();
        for (int none : NONE_SUCH) due.is("25 sheet(" + none + ", 0, 1)", x.sheet(none, 0, 1), BAD);
        int[] sorts = {-2, 3, Integer.MAX_VALUE, Integer.MIN_VALUE};
        for (int sort : sorts) due.is("25 sheet(0, " + sort + ", 1)", x.sheet(0, sort, 1), BAD);
        x.sheet(0, 1, 3);
        due.is("25 n above 40", x.sheet(0, 0, 41), BAD);
        due.is("25 n above 40", x.sheet(0, 0, Integer.MAX_VALUE), BAD);
        due.is("25 n below 0", x.sheet(0, 0, -1), BELOW);
        due.is("25 n below 0", x.sheet(0, 2, Integer.MIN_VALUE), BELOW);
        due.is("25 BAD is ahead of -14", x.sheet(4, 0, -1), BAD);
        due.is("25 BAD is ahead of -14", x.sheet(0, 3, -1), BAD);
        due.is("25 missing, but no such SHEET", x.sheet(4, -1, 0), BAD);
        due.is("25 the SHEET stays", x.cell(0, 2, 0), 1);
        x.sheet(1, 1, 3);
        due.is("25 of its sort", x.copy(0, 0, 1, 0, 3), 3);
    }

    private static void cellsAreOfTheirSort() {
        CoatsFitTheMood x = new CoatsFitTheMood();
        Due.row(x, 0, 0, 256 + 5, -256 + 9, 0x7fffff00 + 99);
        due.is("26 bytes: the lowest 8 bits", x.coats(0, 0, 0, 1), 1);
        due.is("26 KIND", x.told(0, 4), 5);
        due.is("26 NUMBER", x.told(0, 1), 9);
        due.is("26 CUT", x.told(0, 2), 99);
        Due.row(x, 0, 1, 65536 + 4, -65536 + 8, 0x7fff0000 + 98);
        due.is("26 shorts: the lowest 16 bits", x.coats(0, 1, 0, 1), 1);
        due.is("26 KIND", x.told(1, 4), 4);
        due.is("26 NUMBER", x.told(1, 1), 8);
        due.is("26 CUT", x.told(1, 2), 98);
        Due.row(x, 0, 1, 256 + 4, 8, 98);
        due.is("26 shorts: more than 8 bits", x.coats(0, 1, 0, 1), 0);
        Due.row(x, 0, 2, 65536 + 4, 8, 98);
        due.is("26 ints: all bits", x.coats(0, 2, 0, 1), 0);
        Due.row(x, 0, 2, 3, 7, 97);
        due.is("26 ints", x.coats(0, 2, 0, 1), 1);
        due.is("26 CUT", x.told(2, 2), 97);
        Due.row(x, 0, 0, 255);
        due.is("26 bytes: 255 is -1", x.plan(0, 0, 2), 24);
        Due.row(x, 0, 1, 65535);
        due.is("26 shorts: 65535 is -1", x.plan(0, 0, 2), 24);
        Due.row(x, 0, 1, 255);
        due.is("26 shorts: 255 is 255", x.plan(0, 0, 2), BAD);
        Due.row(x, 0, 2, 65535);
        due.is("26 ints: 65535 is 65535", x.plan(0, 0, 2), BAD);
    }

    private static void cellRefuses() {
        CoatsFitTheMood x = new CoatsFitTheMood();
        x.sheet(0, 0, 3);
        for (int none : NONE_SUCH) due.is("26 cell(" + none + ", 0, 0)", x.cell(none, 0, 0), BAD);
        due.is("26 missing", x.cell(1, 0, 0), NOTHING);
        due.is("26 missing, -11 is ahead of -12", x.cell(1, 99, 0), NOTHING);
        int[] places = {-1, 3, 40, Integer.MAX_VALUE, Integer.MIN_VALUE};
        for (int i : places) due.is("26 cell(0, " + i + ", 0)", x.cell(0, i, 0), OUTSIDE);
        due.is("26 cell(0, 2, MAX)", x.cell(0, 2, Integer.MAX_VALUE), 1);
    }

    /** Reads one COAT's three numbers from a SHEET of ints. */
    private static void triple(CoatsFitTheMood x, int sheet, int at, int kind, int number, int cut) {
        x.image();
        int coat = x.count(0);
        due.is("27 a COAT at " + at, x.coats(sheet, 2, at, 1), 1);
        due.is("27 KIND at " + at, x.told(coat, 4), kind);
        due.is("27 NUMBER at " + at, x.told(coat, 1), number);
        due.is("27 CUT at " + at, x.told(coat, 2), cut);
        x.back();
    }

    private static void copies() {
        CoatsFitTheMood x = new CoatsFitTheMood();
        Due.row(x, 0, 2, 1, 1, 11, 2, 2, 22, 3, 3, 33, 4, 4, 44);
        x.sheet(1, 2, 9);
        due.is("27 copy to another", x.copy(0, 3, 1, 6, 3), 3);
        triple(x, 1, 6, 2, 2, 22);
        triple(x, 1, 3, 0, 0, 0);
        triple(x, 0, 3, 2, 2, 22);
        due.is("27 copy forth in the same", x.copy(0, 0, 0, 3, 9), 9);
        triple(x, 0, 0, 1, 1, 11);
        triple(x, 0, 3, 1, 1, 11);
        triple(x, 0, 6, 2, 2, 22);
        triple(x, 0, 9, 3, 3, 33);
        due.is("27 copy back in the same", x.copy(0, 3, 0, 0, 9), 9);
        triple(x, 0, 0, 1, 1, 11);
        triple(x, 0, 3, 2, 2, 22);
        triple(x, 0, 6, 3, 3, 33);
        triple(x, 0, 9, 3, 3, 33);
        due.is("27 copy of none", x.copy(0, 12, 1, 9, 0), 0);
        due.is("27 copy of one onto itself", x.copy(0, 11, 0, 11, 1), 1);
        Due.row(x, 2, 0, -1);
        x.sheet(3, 0, 24);
        due.is("27 bytes", x.copy(2, 0, 3, 23, 1), 1);
        x.coat(0, 0, 50);
        due.is("27 one HOUR without", x.plan(3, 0, 2), 1);
    }

    private static void copyRefuses() {
        CoatsFitTheMood x = new CoatsFitTheMood();
        x.sheet(0, 0, 5);
        x.sheet(1, 0, 3);
        x.sheet(2, 1, 5);
        for (int none : NONE_SUCH) {
            due.is("27 copy(" + none + ", 0, 0, 0, 1)", x.copy(none, 0, 0, 0, 1), BAD);
            due.is("27 copy(0, 0, " + none + ", 0, 1)", x.copy(0, 0, none, 0, 1), BAD);
            due.is("27 BAD is ahead of -11", x.copy(none, 0, 3, 0, 1), BAD);
            due.is("27 BAD is ahead of -11", x.copy(3, 0, none, 0, 1), BAD);
        }
        due.is("27 from a missing one", x.copy(3, 0, 0, 0, 1), NOTHING);
        due.is("27 to a missing one", x.copy(0, 0, 3, 0, 1), NOTHING);
        due.is("27 -11 is ahead of -12", x.copy(0, 9, 3, 9, -1), NOTHING);
        due.is("27 unlike sorts", x.copy(0, 0, 2, 0, 1), UNLIKE);
        due.is("27 unlike sorts, of none", x.copy(2, 0, 0, 0, 0), UNLIKE);
        due.is("27 -13 is ahead of -12", x.copy(0, 9, 2, 9, -1), UNLIKE);
        due.is("27 n below 0", x.copy(0, 0, 1, 0, -1), OUTSIDE);
        due.is("27 n below 0", x.copy(0, 0, 1, 0, Integer.MIN_VALUE), OUTSIDE);
        due.is("27 n too many of its own", x.copy(1, 0, 0, 0, 4), OUTSIDE);
        due.is("27 n too many for the other", x.copy(0, 0, 1, 0, 4), OUTSIDE);
        due.is("27 n far too many", x.copy(0, 1, 1, 1, Integer.MAX_VALUE), OUTSIDE);
        due.is("27 i below 0", x.copy(0, -1, 1, 0, 1), OUTSIDE);
        due.is("27 j below 0", x.copy(0, 0, 1, -1, 1), OUTSIDE);
        due.is("27 i behind the end", x.copy(0, 6, 1, 0, 0), OUTSIDE);
        due.is("27 j behind the end", x.copy(0, 0, 1, 4, 0), OUTSIDE);
        due.is("27 i at the end", x.copy(0, 5, 1, 0, 1), OUTSIDE);
        due.is("27 i far behind", x.copy(0, Integer.MAX_VALUE, 1, 0, 1), OUTSIDE);
        due.is("27 j far behind", x.copy(0, 0, 1, Integer.MAX_VALUE, 1), OUTSIDE);
        due.is("27 both ends", x.copy(0, 5, 1, 3, 0), 0);
    }

    private static void coatsCome() {
        for (int sort = 0; sort <= 2; sort++) {
            CoatsFitTheMood x = new CoatsFitTheMood();
            Due.row(x, 1, sort, 9, 0, 1, 2, 5, 9, 99, 3, 4, 5);
            due.is("28 coats(1, " + sort + ", 1, 3)", x.coats(1, sort, 1, 3), 3);
            due.is("28 COATS", x.count(0), 3);
            int[] kinds = {0, 5, 3};
            int[] numbers = {1, 9, 4};
            int[] cuts = {2, 99, 5};
            for (int i = 0; i < 3; i++) {
                due.is("28 KIND " + i, x.told(i, 4), kinds[i]);
                due.is("28 NUMBER " + i, x.told(i, 1), numbers[i]);
                due.is("28 CUT " + i, x.told(i, 2), cuts[i]);
                due.is("28 WORN " + i, x.told(i, 3), 0);
            }
            due.is("28 none of them", x.coats(1, sort, 0, 0), 0);
            due.is("28 none of them, from anywhere", x.coats(1, sort, 99, 0), 0);
            due.is("28 none of them, from anywhere", x.coats(1, sort, -1, 0), 0);
            due.is("28 COATS", x.count(0), 3);
        }
    }

    private static void coatsAreLeftOut() {
        CoatsFitTheMood x = new CoatsFitTheMood();
        Due.row(x, 0, 2, -1, 0, 0, 6, 0, 0, 0, -1, 0, 0, 10, 0, 0, 0, -1, 0, 0, 100, 5, 9, 99, 0, 0, 0);
        due.is("28 all are left out", x.coats(0, 2, 0, 6), 0);
        due.is("28 two come", x.coats(0, 2, 0, 8), 2);
        due.is("28 COATS", x.count(0), 2);
        due.is("28 the first", x.told(0, 4), 5);
        due.is("28 -12: what stood ahead came", x.coats(0, 2, 12, 5), OUTSIDE);
        due.is("28 COATS", x.count(0), 4);
        due.is("28 a place in the midst of three", x.coats(0, 2, 19, 2), OUTSIDE);
        due.is("28 a place in the midst of three", x.coats(0, 2, 20, 2), OUTSIDE);
        due.is("28 COATS", x.count(0), 4);
        Due.row(x, 1, 0, 0, 0, 0, 1, 1, 1, 2, 2, 2, 3, 3, 3, 4, 4, 4, 5, 5, 5);
        due.is("28 there is room for four", x.coats(1, 0, 0, 6), 4);
        due.is("28 COATS", x.count(0), 8);
        due.is("28 the last", x.told(7, 4), 3);
        due.is("28 no room", x.coats(1, 0, 0, 6), 0);
        due.is("28 no room, outside", x.coats(1, 0, 0, 7), OUTSIDE);
    }

    private static void coatsRefuses() {
        CoatsFitTheMood x = new CoatsFitTheMood();
        x.sheet(0, 1, 30);
        for (int none : NONE_SUCH) due.is("28 coats(" + none + ", 1, 0, 1)", x.coats(none, 1, 0, 1), BAD);
        int[] sorts = {-1, 3, Integer.MAX_VALUE, Integer.MIN_VALUE};
        for (int sort : sorts) due.is("28 coats(0, " + sort + ", 0, 1)", x.coats(0, sort, 0, 1), BAD);
        int[] ns = {-1, 9, Integer.MAX_VALUE, Integer.MIN_VALUE};
        for (int n : ns) due.is("28 coats(0, 1, 0, " + n + ")", x.coats(0, 1, 0, n), BAD);
        due.is("28 BAD is ahead of -13", x.coats(0, 0, 0, 9), BAD);
        due.is("28 BAD is ahead of -11", x.coats(1, 0, 0, 9), BAD);
        due.is("28 another sort", x.coats(0, 0, 0, 1), UNLIKE);
        due.is("28 another sort", x.coats(0, 2, 0, 1), UNLIKE);
        due.is("28 another sort, of none", x.coats(0, 2, 0, 0), UNLIKE);
        due.is("28 -13 is ahead of -12", x.coats(0, 2, 99, 1), UNLIKE);
        due.is("28 missing", x.coats(1, 0, 0, 1), NOTHING);
        due.is("28 missing, of none", x.coats(1, 2, 0, 0), NOTHING);
        due.is("28 missing, outside", x.coats(1, 2, -1, 1), NOTHING);
        int[] froms = {-1, -3, 28, 30, Integer.MAX_VALUE, Integer.MAX_VALUE - 1, Integer.MIN_VALUE};
        for (int from : froms) due.is("28 coats(0, 1, " + from + ", 1)", x.coats(0, 1, from, 1), OUTSIDE);
        due.is("28 none came", x.count(0), 0);
        due.is("28 the last three", x.coats(0, 1, 27, 1), 1);
    }

    private static void takenForKinds() {
        CoatsFitTheMood x = new CoatsFitTheMood();
        for (int kind = 0; kind < 6; kind++) x.coat(kind, kind + 3, 0);
        boolean[][] under = {
            {true, false, false, false, false, false},
            {true, true, false, false, false, false},
            {true, false, true, false, false, false},
            {true, true, false, true, false, false},
            {true, false, true, false, true, false},
            {true, false, false, false, false, true},
        };
        for (int coat = 0; coat < 6; coat++) {
            for (int k = 0; k < 6; k++) {
                due.is("29 taken(" + coat + ", " + k + ")", x.taken(coat, k), under[coat][k] ? coat + 3 : UNLIKE);
            }
        }
        x.set(1, 4, 0);
        due.is("29 its NUMBER now", x.taken(4, 2), 0);
    }

    private static void takenRefuses() {
        CoatsFitTheMood x = new CoatsFitTheMood();
        x.coat(0, 0, 0);
        int[] ks = {-1, 6, Integer.MAX_VALUE, Integer.MIN_VALUE};
        for (int k : ks) {
            due.is("29 taken(0, " + k + ")", x.taken(0, k), BAD);
            due.is("29 BAD is ahead of -11", x.taken(9, k), BAD);
        }
        int[] coats = {-1, 1, 8, Integer.MAX_VALUE, Integer.MIN_VALUE};
        for (int coat : coats) due.is("29 taken(" + coat + ", 0)", x.taken(coat, 0), NOTHING);
    }
}
