/** Terms 2 of what would be best, and promises 14 to 17: anew, pushes, all, mean. */
final class EdgesOfBest {
    private static final int BAD = -2;
    private static final int MOST = Integer.MAX_VALUE, LEAST = Integer.MIN_VALUE;
    private static final int[] NO_PEOPLE = {-1, 3, MOST, LEAST}, NO_PARTS = {-1, 2, MOST, LEAST};
    private final Edges e;

    EdgesOfBest(Edges e) {
        this.e = e;
    }

    void all() {
        cutAnew();
        cutAnewOfLikeOnes();
        useless();
        alike();
        push();
        pushOfLikeOnes();
        means();
        anew();
        pushes();
        allOfThem();
        mean();
    }

    private void anewOf(CoatsFitTheMood x, int coat, int cut, int hours) {
        e.is("anew(" + coat + ", 0, 0)", x.anew(coat, 0, 0), cut);
        e.is("anew(" + coat + ", 0, 1)", x.anew(coat, 0, 1), hours);
    }

    private void cutAnew() {
        e.says("T2", "CUT ANEW (a COAT, one): the CUT by which it FITS at most HOURS;");
        CoatsFitTheMood x = new CoatsFitTheMood();
        for (int kind = 0; kind < 6; kind++) x.coat(kind, 1, 99);
        Due.moods(x, 0, 20, 80, 80);
        anewOf(x, 0, 65, 16);
        anewOf(x, 1, 73, 16);
        anewOf(x, 2, 55, 16);
        anewOf(x, 3, 13, 8);
        anewOf(x, 4, 46, 24);
        anewOf(x, 5, 65, 16);
        Due.moods(x, 0, 35, 65);
        anewOf(x, 0, 50, 24);
        anewOf(x, 2, 40, 24);
        Due.rule(x, "eases 0; fines 0; costs 0;");
        Due.moods(x, 0, 99);
        anewOf(x, 0, 99, 24);
        anewOf(x, 1, 99, 24);
        anewOf(x, 2, 89, 24);
        Due.rule(x, "eases (cut = 70) * 99; fines 0; costs 0;");
        anewOf(x, 0, 70, 24);
        Due.rule(x, "eases hour * (cut = 70); fines 0; costs 0;");
        Due.moods(x, 0, 70, 60);
        // By CUT 70: MOOD 70 at each even HOUR, MOOD 60 at the odd ones from 11 on.
        anewOf(x, 0, 70, 12 + 7);
        e.is("it is not cut", x.told(0, 2), 99);
    }

    private void cutAnewOfLikeOnes() {
        e.says("T2", "of like ones the least; how many.");
        CoatsFitTheMood x = new CoatsFitTheMood();
        for (int kind = 0; kind < 6; kind++) x.coat(kind, 0, 50);
        anewOf(x, 0, 35, 24);
        anewOf(x, 1, 43, 24);
        anewOf(x, 2, 25, 24);
        anewOf(x, 3, 0, 0);
        anewOf(x, 4, 0, 24);
        anewOf(x, 5, 0, 24);
        x.set(0, 0, 0);
        anewOf(x, 0, 35, 23);
        Due.moods(x, 0, 20, 80);
        anewOf(x, 0, 5, 12);
        x.set(0, 0, 80);
        anewOf(x, 0, 65, 13);
        Due.rule(x, "eases 99; fines 0; costs 0;");
        anewOf(x, 0, 0, 24);
        anewOf(x, 4, 0, 0);
    }

    private void useless() {
        e.says("T2", "USELESS: COATS (bits) that FIT nobody at any HOUR.");
        CoatsFitTheMood x = new CoatsFitTheMood();
        e.is("without COATS", x.all(0), 0);
        for (int i = 0; i < 8; i++) x.coat(0, 0, 99);
        e.is("all eight", x.all(0), 255);
        x.set(2, 7, 65);
        e.is("but the last", x.all(0), 127);
        x.set(0, 0, 84);
        e.is("none, by the first HOUR of the first one", x.all(0), 0);
        x.set(0, 0, 83);
        e.is("all but the last again", x.all(0), 127);
        x.set(0, 223, 84);
        e.is("none, by the last HOUR of the last one", x.all(0), 0);
        x.set(0, 223, 83);
        x.set(0, 112, 84);
        e.is("none, by another", x.all(0), 0);
    }

    private void alike(CoatsFitTheMood x, int two, int far) {
        e.is("all(1)", x.all(1), two);
        e.is("all(2)", x.all(2), far);
    }

    private void alike() {
        e.says("T2", "ALIKE: the two (10 times the lesser, and the other) whose MOODS are least apart, all HOURS together;");
        CoatsFitTheMood x = new CoatsFitTheMood();
        x.push(0, 0, 20);
        alike(x, 12, 0);
        x.push(1, 0, 19);
        alike(x, 1, 24);
        x.push(2, 0, 21);
        x.push(1, 0, -19);
        alike(x, 2, 24);
        x.set(0, 200, 0);
        x.set(0, 223, 50);
        alike(x, 2, 70 + 20 + 22);
        Due.moods(x, 0, 0);
        Due.moods(x, 1, 99);
        Due.moods(x, 2, 0, 99, 99);
        alike(x, 12, 8 * 99);
        e.says("T2", "of like ones the first; how far.");
        Due.moods(x, 2, 0, 99);
        alike(x, 2, 12 * 99);
        Due.moods(x, 2, 99, 0);
        alike(x, 2, 12 * 99);
        Due.moods(x, 0, 50);
        Due.moods(x, 1, 50);
        Due.moods(x, 2, 50);
        alike(x, 1, 0);
        x.set(0, 0, 0);
        x.set(0, 101, 0);
        x.set(0, 202, 0);
        alike(x, 1, 100);
        x.set(0, 101, 50);
        x.set(0, 102, 0);
        x.set(0, 103, 50);
        x.set(0, 2, 1);
        alike(x, 12, 0);
        Due.moods(x, 0, 0);
        Due.moods(x, 1, 99);
        Due.moods(x, 2, 99, 0, 0);
        alike(x, 2, 8 * 99);
    }

    private void pushesOf(CoatsFitTheMood x, int v, int hour, int costs) {
        e.is("pushes(0, " + v + ", 0)", x.pushes(0, v, 0), hour);
        e.is("pushes(0, " + v + ", 1)", x.pushes(0, v, 1), costs);
    }

    private void push() {
        e.says("T2", "PUSH (one, v): the HOUR from which on, were one PUSHED by v, CHEAP would COST least;");
        CoatsFitTheMood x = new CoatsFitTheMood();
        x.coat(0, 0, 50);
        for (int hour = 12; hour < 24; hour++) x.set(0, hour, 90);
        pushesOf(x, -25, 12, 3);
        pushesOf(x, -55, 12, 3);
        pushesOf(x, -56, 12, 3 + 12 * 5);
        pushesOf(x, 16, 12, 3 + 12 * 5);
        Due.moods(x, 0, 50);
        pushesOf(x, 16, 23, 3 + 5);
        pushesOf(x, -99, 23, 3 + 5);
        Due.moods(x, 0, 66);
        x.set(0, 0, 50);
        pushesOf(x, -1, 0, 3);
        x.set(0, 0, 35);
        pushesOf(x, -1, 1, 3);
        e.is("nothing is pushed", x.told(5, 0), 66);
        // By the bound: 90 and 99 is 99, 9 apart from CUT 90; 0 less 99 is 0.
        x.set(2, 0, 90);
        Due.moods(x, 0, 90);
        pushesOf(x, 99, 0, 3);
        x.set(2, 0, 0);
        Due.moods(x, 0, 10);
        pushesOf(x, -99, 0, 3);
    }

    private void pushOfLikeOnes() {
        e.says("T2", "of like ones the first.");
        CoatsFitTheMood x = new CoatsFitTheMood();
        pushesOf(x, 99, 0, 24 * 99);
        x.coat(0, 0, 50);
        pushesOf(x, 0, 0, 3);
        pushesOf(x, 15, 0, 3);
        pushesOf(x, -15, 0, 3);
        x.set(0, 0, 65);
        pushesOf(x, 15, 1, 3);
        x.set(0, 5, 65);
        pushesOf(x, 15, 6, 3);
        // HOUR 23 is PUSHED from each HOUR on: one misfit at least.
        x.set(0, 23, 65);
        pushesOf(x, 15, 6, 3 + 5);
        // 99 doesn't FIT, PUSHED or not: to begin ahead of it costs no more.
        x.set(0, 5, 99);
        pushesOf(x, 15, 1, 3 + 5 + 5);
    }

    private void means() {
        e.says("T2", "MEAN (one): MOODS, together, by 24.");
        CoatsFitTheMood x = new CoatsFitTheMood();
        x.set(0, 123, 51);
        e.is("above", x.mean(1, 0), 24 * 50 + 1);
        e.is("below", x.mean(1, 1), 24);
        e.is("of another", x.mean(2, 0), 50);
        e.is("of another", x.mean(0, 1), 1);
        Due.moods(x, 2, 0, 1);
        e.is("12 by 24, above", x.mean(2, 0), 1);
        e.is("12 by 24, below", x.mean(2, 1), 2);
    }

    private void anew() {
        e.says("14", "CUT ANEW (what 0), how many HOURS then (1).");
        CoatsFitTheMood x = new CoatsFitTheMood();
        x.coat(0, 0, 0);
        x.coat(2, 0, 0);
        Due.moods(x, 2, 90, 90, 90, 0);
        e.is("anew(0, 2, 0)", x.anew(0, 2, 0), 75);
        e.is("anew(0, 2, 1)", x.anew(0, 2, 1), 18);
        e.is("anew(1, 2, 0)", x.anew(1, 2, 0), 65);
        e.is("anew(1, 1, 0)", x.anew(1, 1, 0), 25);
        e.is("anew(1, 1, 1)", x.anew(1, 1, 1), 24);
        e.is("nothing is cut", x.told(0, 2), 0);
        e.says("14", "BAD.");
        int[] noCoats = {-1, 2, 7, 8, MOST, LEAST};
        for (int coat : noCoats) e.is("anew(" + coat + ", 0, 0)", x.anew(coat, 0, 0), BAD);
        for (int one : NO_PEOPLE) e.is("anew(0, " + one + ", 0)", x.anew(0, one, 0), BAD);
        for (int what : NO_PARTS) e.is("anew(0, 0, " + what + ")", x.anew(0, 0, what), BAD);
        e.is("without COATS", new CoatsFitTheMood().anew(0, 0, 0), BAD);
    }

    private void pushes() {
        e.says("15", "PUSH (what 0), what CHEAP COSTS then (1).");
        CoatsFitTheMood x = new CoatsFitTheMood();
        x.coat(0, 0, 50);
        Due.moods(x, 2, 90);
        x.set(0, 200, 50);
        x.set(0, 201, 50);
        e.is("pushes(2, -40, 0)", x.pushes(2, -40, 0), 2);
        e.is("pushes(2, -40, 1)", x.pushes(2, -40, 1), 3);
        e.is("pushes(1, -40, 0)", x.pushes(1, -40, 0), 23);
        e.is("pushes(1, -40, 1)", x.pushes(1, -40, 1), 8);
        for (int v = -99; v <= 99; v += 198) e.is("pushes(1, " + v + ", 1)", x.pushes(1, v, 1), 8);
        e.is("nothing is pushed", x.told(223, 0), 90);
        e.says("15", "BAD: one, v (-99 .. 99), what.");
        for (int one : NO_PEOPLE) e.is("pushes(" + one + ", 0, 0)", x.pushes(one, 0, 0), BAD);
        int[] noPushes = {-100, 100, MOST, LEAST};
        for (int v : noPushes) e.is("pushes(0, " + v + ", 0)", x.pushes(0, v, 0), BAD);
        for (int what : NO_PARTS) e.is("pushes(0, 0, " + what + ")", x.pushes(0, 0, what), BAD);
    }

    private void allOfThem() {
        e.says("16", "USELESS (what 0; bits), ALIKE (1), how far (2).");
        CoatsFitTheMood x = new CoatsFitTheMood();
        x.coat(0, 0, 0);
        x.coat(0, 0, 50);
        x.coat(0, 0, 0);
        x.push(0, 20, 1);
        x.push(1, 23, -2);
        e.is("all(0)", x.all(0), 1 + 4);
        e.is("all(1)", x.all(1), 12);
        e.is("all(2)", x.all(2), 2);
        e.says("16", "BAD.");
        int[] noWhats = {-1, 3, 4, MOST, LEAST};
        for (int what : noWhats) e.is("all(" + what + ")", x.all(what), BAD);
    }

    private void mean() {
        e.says("17", "MEAN: part 0 above, 1 below the line,");
        CoatsFitTheMood x = new CoatsFitTheMood();
        Due.moods(x, 1, 0);
        x.set(0, 123, 99);
        x.set(0, 100, 98);
        e.is("197 by 24, above", x.mean(1, 0), 197);
        e.is("197 by 24, below", x.mean(1, 1), 24);
        e.says("17", "in lowest terms.");
        int[][] together = {{0, 0, 1}, {1, 1, 24}, {2, 1, 12}, {3, 1, 8}, {4, 1, 6}, {6, 1, 4}, {8, 1, 3}, {9, 3, 8}, {12, 1, 2},
            {16, 2, 3}, {18, 3, 4}, {24, 1, 1}, {32, 4, 3}, {36, 3, 2}, {48, 2, 1}, {99, 33, 8}};
        for (int[] t : together) {
            Due.moods(x, 1, 0);
            x.set(0, 100, t[0]);
            e.is(t[0] + " by 24, above", x.mean(1, 0), t[1]);
            e.is(t[0] + " by 24, below", x.mean(1, 1), t[2]);
        }
        Due.moods(x, 1, 99);
        e.is("2376 by 24, above", x.mean(1, 0), 99);
        e.is("2376 by 24, below", x.mean(1, 1), 1);
        e.says("17", "NO.");
        for (int one : NO_PEOPLE) e.is("mean(" + one + ", 0)", x.mean(one, 0), CoatsFitTheMood.NO);
        for (int part : NO_PARTS) e.is("mean(0, " + part + ")", x.mean(0, part), CoatsFitTheMood.NO);
    }
}
