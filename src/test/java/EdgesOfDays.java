/** Terms 2 of PLANS and days, and promises 9 to 13: push, plan, wear, day, dress. */
final class EdgesOfDays {
    private static final int BAD = -2, NOTHING = -11, NONE = -1;
    private static final int MOST = Integer.MAX_VALUE, LEAST = Integer.MIN_VALUE;
    private static final int ALL_HOURS = 16777215;
    private static final int[] NO_SHEETS = {-1, 4, MOST, LEAST}, NO_PEOPLE = {-1, 3, MOST, LEAST};
    private final Edges e;

    EdgesOfDays(Edges e) {
        this.e = e;
    }

    void all() {
        plans();
        finesOfPlans();
        costsOfPlans();
        wearing();
        right();
        cover();
        coverOfLikeOnes();
        bare();
        changes();
        cheap();
        cheapOfLikeOnes();
        pushed();
        push();
        plan();
        planRefuses();
        wear();
        day();
        dress();
    }

    /** COATS of these CUTS, NUMBER as they come, THE RULE as it is first. */
    private static CoatsFitTheMood cut(int... cuts) {
        CoatsFitTheMood x = new CoatsFitTheMood();
        for (int i = 0; i < cuts.length; i++) x.coat(0, i, cuts[i]);
        return x;
    }

    private static int[] times(int v, int n) {
        int[] all = new int[n];
        for (int i = 0; i < n; i++) all[i] = v;
        return all;
    }

    private void costsOf(CoatsFitTheMood x, int due, int... plan) {
        Due.row(x, 0, 0, plan);
        e.is("plan(0, 0, 0) of " + java.util.Arrays.toString(plan), x.plan(0, 0, 0), due);
    }

    private void plans() {
        e.says("T2", "A PLAN: which COAT one wears (or none) HOUR by HOUR from 0 on;");
        CoatsFitTheMood x = cut(50, 0);
        x.set(0, 1, 0);
        costsOf(x, 3 + 3 + 22 * 99, 0, 1);
        costsOf(x, 3 + 5 + 3 + 5 + 22 * 99, 1, 0);
        costsOf(x, 99 + 3 + 22 * 99, NONE, 1);
        costsOf(x, 3 + 99 + 22 * 99, 0, NONE);
        e.says("T2", "behind what it tells none.");
        costsOf(x, 24 * 99);
        costsOf(x, 3 + 23 * 99, 0);
        x.set(0, 1, 50);
        costsOf(x, 3 + 99, times(0, 23));
        costsOf(x, 3, times(0, 24));
    }

    private void finesOfPlans() {
        e.says("T2", "It COSTS, together: at each HOUR at which what one wears doesn't FIT its FINE;");
        CoatsFitTheMood x = cut(50, 51);
        Due.rule(x, "eases 0; fines mood; costs 0;");
        costsOf(x, 0, times(0, 24));
        costsOf(x, 24 * 50, times(1, 24));
        x.set(0, 0, 10);
        x.set(0, 5, 49);
        x.set(0, 23, 99);
        costsOf(x, 10 + 49 + 99, times(0, 24));
        x.set(0, 5, 51);
        costsOf(x, 10 + 51 + 99, times(0, 24));
        costsOf(x, 10 + 21 * 50 + 99, times(1, 24));
        Due.rule(x, "eases 0; fines hour; costs 0;");
        costsOf(x, 0 + 5 + 23, times(0, 24));
    }

    private void costsOfPlans() {
        e.says("T2", "at each at which one wears another COAT than in the HOUR ahead (HOUR 0: any COAT) its COST");
        CoatsFitTheMood x = cut(50, 50, 50, 50, 50, 50, 50, 50);
        Due.rule(x, "eases 15; fines 0; costs hour + 1;");
        costsOf(x, 1 + 3 + 5 + 7 + 17 * 99, 0, 0, 1, 1, 0, NONE, 0, 0);
        for (int coat = 0; coat < 8; coat++) costsOf(x, 1, times(coat, 24));
        costsOf(x, 1 + 2 + 3 + 4 + 5 + 6 + 7 + 8 + 16 * 99, 7, 6, 5, 4, 3, 2, 1, 0);
        costsOf(x, 2 + 23 * 99, NONE, 7);
        e.says("T2", "(all told by MOOD of that HOUR; taking off is free).");
        Due.rule(x, "eases 99; fines 0; costs mood;");
        for (int hour = 0; hour < 24; hour++) x.set(0, hour, 60 + hour);
        costsOf(x, 61 + 63 + 22 * 99, NONE, 0, NONE, 1);
        costsOf(x, 60 + 23 * 99, 0, NONE);
        costsOf(x, 60 + 61 + 62 + 21 * 99, 0, 1, 0);
    }

    private void wearing() {
        e.says("T2", "WEARING it, truly: each COAT was WORN for as many HOURS more as it is in it");
        CoatsFitTheMood x = cut(50, 50, 50);
        Due.row(x, 0, 0, 0, 1, 0, NONE, 0);
        x.wear(0, 0);
        e.is("WORN 0", x.told(0, 3), 3);
        e.is("WORN 1", x.told(1, 3), 1);
        e.is("WORN 2", x.told(2, 3), 0);
        x.wear(0, 2);
        e.is("WORN 0 more", x.told(0, 3), 6);
        Due.row(x, 0, 0, times(2, 24));
        x.wear(0, 1);
        e.is("WORN 2 all day", x.told(2, 3), 24);
        e.says("T2", "(999 at most;");
        x.set(3, 2, 974);
        x.wear(0, 0);
        e.is("998", x.told(2, 3), 998);
        x.wear(0, 0);
        e.is("999", x.told(2, 3), 999);
        x.wear(0, 0);
        e.is("999", x.told(2, 3), 999);
        x.set(3, 2, 975);
        x.wear(0, 0);
        e.is("975 and 24", x.told(2, 3), 999);
        e.says("T2", "behind all telling).");
        CoatsFitTheMood y = cut(0);
        y.set(3, 0, 10);
        Due.rule(y, "eases 0; fines worn; costs worn + 1;");
        Due.row(y, 0, 0, times(0, 24));
        e.is("wear(0, 0) at WORN 10", y.wear(0, 0), 24 * 10 + 11);
        e.is("wear(0, 0) at WORN 34", y.wear(0, 0), 24 * 34 + 35);
    }

    private void right() {
        e.says("T2", "RIGHT at an HOUR: COATS that FIT.");
        CoatsFitTheMood x = cut(35, 65, 34, 66, 50, 0, 99, 50);
        e.is("told(0, 5)", x.told(0, 5), 1 + 2 + 16 + 128);
        x.set(0, 0, 49);
        e.is("told(0, 5)", x.told(0, 5), 1 + 4 + 16 + 128);
        Due.rule(x, "eases hour; fines 0; costs 0;");
        e.is("told(14, 5)", x.told(14, 5), 16 + 128);
        e.is("told(16, 5)", x.told(16, 5), 1 + 2 + 4 + 8 + 16 + 128);
    }

    private void covers(CoatsFitTheMood x, int bits, int many) {
        e.is("day(0, 0)", x.day(0, 0), bits);
        e.is("day(0, 1)", x.day(0, 1), many);
    }

    private void cover() {
        e.says("T2", "COVER (one): of all sets of COATS such that at each HOUR at which any FITS one of the set does, that of fewest;");
        covers(cut(), 0, 0);
        covers(cut(0, 99), 0, 0);
        covers(cut(0, 50), 2, 1);
        CoatsFitTheMood x = cut(20, 50, 80);
        Due.moods(x, 0, 35, 65);
        covers(x, 2, 1);
        Due.moods(x, 0, 34, 66);
        covers(x, 1 + 4, 2);
        x.set(0, 12, 50);
        covers(x, 7, 3);
        Due.moods(x, 0, 99, 35, 65, 0);
        covers(x, 2, 1);
        Due.moods(x, 0, 50);
        x.set(0, 23, 20);
        covers(x, 1 + 2, 2);
        x.set(0, 23, 50);
        x.set(0, 0, 80);
        covers(x, 2 + 4, 2);
        CoatsFitTheMood y = cut(5, 17, 29, 41, 53, 65, 77, 89);
        Due.rule(y, "eases 5; fines 0; costs 0;");
        Due.moods(y, 0, 5, 17, 29, 41, 53, 65, 77, 89);
        covers(y, 255, 8);
    }

    private void coverOfLikeOnes() {
        e.says("T2", "of like ones the least as bits.");
        covers(cut(50, 50, 50, 50, 50, 50, 50, 50), 1, 1);
        covers(cut(0, 50, 50), 2, 1);
        CoatsFitTheMood x = cut(20, 20, 80, 80);
        Due.moods(x, 0, 20, 80);
        covers(x, 1 + 4, 2);
        // At MOODS 20, 40, 60, 80 these are RIGHT: 1 and 3, 0 and 1, 0 and 2, 2 and 3. So both 0 and 3, and 1 and 2 would do.
        CoatsFitTheMood y = cut(50, 30, 70);
        y.coat(4, 0, 50);
        Due.rule(y, "eases 10; fines 0; costs 0;");
        Due.moods(y, 0, 20, 40, 60, 80);
        covers(y, 2 + 4, 2);
    }

    private void bare() {
        e.says("T2", "BARE: HOURS (bits) at which none FITS.");
        CoatsFitTheMood x = cut();
        e.is("without COATS", x.day(0, 2), ALL_HOURS);
        CoatsFitTheMood y = cut(50);
        e.is("none", y.day(0, 2), 0);
        y.set(0, 0, 66);
        e.is("HOUR 0", y.day(0, 2), 1);
        y.set(0, 23, 34);
        y.set(0, 22, 35);
        e.is("HOURS 0 and 23", y.day(0, 2), 1 + 8388608);
        e.is("of another", y.day(1, 2), 0);
        y.coat(0, 0, 34);
        e.is("HOUR 0", y.day(0, 2), 1);
    }

    private void changesOf(CoatsFitTheMood x, int due, int... moods) {
        Due.moods(x, 0, moods);
        e.is("day(0, 3) of " + java.util.Arrays.toString(moods), x.day(0, 3), due);
    }

    private void changes() {
        e.says("T2", "CHANGES (one): of all PLANS of COATS alone (no HOUR without one) that FIT at each HOUR that isn't BARE the fewest HOURS");
        CoatsFitTheMood x = cut(20, 80);
        changesOf(x, 23, 20, 80);
        changesOf(x, 11, 20, 20, 80, 80);
        changesOf(x, 23, 80, 20);
        changesOf(x, 0, 20, 99, 50, 99);
        changesOf(x, 11, 20, 50, 80, 50);
        changesOf(x, 0, 50);
        CoatsFitTheMood y = cut(20, 80, 50);
        changesOf(y, 0, 35, 65);
        changesOf(y, 23, 20, 65);
        changesOf(y, 15, 20, 35, 50);
        changesOf(y, 15, 34, 35, 36, 35, 34, 66);
        CoatsFitTheMood z = cut(5, 17, 29, 41, 53, 65, 77, 89);
        Due.rule(z, "eases 5; fines 0; costs 0;");
        changesOf(z, 23, 89, 77, 65, 53, 41, 29, 17, 5);
        e.says("T2", "(HOUR 0 not counted) at which one wears another COAT than in the HOUR ahead");
        changesOf(x, 0, 20);
        changesOf(x, 0, 80);
        changesOf(x, 1, 20, 20, 20, 20, 20, 20, 20, 20, 20, 20, 20, 20, 80, 80, 80, 80, 80, 80, 80, 80, 80, 80, 80, 80);
        Due.moods(x, 0, 20);
        x.set(0, 0, 80);
        e.is("at HOUR 1", x.day(0, 3), 1);
        Due.moods(x, 0, 20);
        x.set(0, 23, 80);
        e.is("at HOUR 23", x.day(0, 3), 1);
        e.says("T2", "(no COATS: 0).");
        e.is("day(0, 3)", cut().day(0, 3), 0);
    }

    private void cheapest(CoatsFitTheMood x, int costs, int... worn) {
        e.is("day(0, 4)", x.day(0, 4), costs);
        for (int hour = 0; hour < 24; hour++) {
            e.is("day(0, " + (10 + hour) + ")", x.day(0, 10 + hour), worn[Math.min(hour, worn.length - 1)]);
        }
    }

    private void cheap() {
        e.says("T2", "CHEAP (one): of all PLANS that of least COST;");
        CoatsFitTheMood x = cut(20, 80);
        Due.moods(x, 0, 80);
        x.set(0, 3, 20);
        cheapest(x, 3 + 5, 1);
        x.set(0, 4, 20);
        cheapest(x, 3 + 3 + 3, 1, 1, 1, 0, 0, 1);
        x.set(0, 0, 20);
        cheapest(x, 3 + 3 + 3 + 3, 0, 1, 1, 0, 0, 1);
        x.set(0, 1, 20);
        cheapest(x, 3 + 5 + 3, 0, 0, 0, 0, 0, 1);
        // Nothing follows the last HOUR: a change costs 3 there, a misfit 5, then 2.
        Due.moods(x, 0, 80);
        x.set(0, 23, 20);
        cheapest(x, 3 + 3, 1, 1, 1, 1, 1, 1, 1, 1, 1, 1, 1, 1, 1, 1, 1, 1, 1, 1, 1, 1, 1, 1, 1, 0);
        Due.rule(x, "eases 15; fines 2; costs 3;");
        cheapest(x, 3 + 2, 1);
        CoatsFitTheMood y = cut(0, 0, 0, 0, 0, 0, 0, 50);
        cheapest(y, 3, 7);
        CoatsFitTheMood z = cut(0);
        Due.rule(z, "eases 15; fines 99; costs 99;");
        cheapest(z, 24 * 99, NONE);
        e.says("T2", "what it COSTS; what one wears when.");
        cheapest(cut(), 24 * 99, NONE);
        cheapest(cut(50), 3, 0);
        cheapest(cut(0, 99, 50), 3, 2);
        cheapest(cut(0), 24 * 5 + 3, 0);
    }

    private void cheapOfLikeOnes() {
        e.says("T2", "of like ones the first (none first, then the COATS by number, HOUR 0 first):");
        cheapest(cut(50, 50, 50, 50, 50, 50, 50, 50), 3, 0);
        cheapest(cut(0, 50, 50), 3, 1);
        CoatsFitTheMood never = new CoatsFitTheMood();
        never.coat(5, 1, 0);
        cheapest(never, 24 * 99, NONE);
        CoatsFitTheMood x = cut(50);
        Due.rule(x, "eases 15; fines 99; costs 3;");
        x.set(0, 0, 99);
        cheapest(x, 99 + 3, NONE, 0);
        x.set(0, 0, 50);
        x.set(0, 23, 99);
        cheapest(x, 3 + 99, 0, 0, 0, 0, 0, 0, 0, 0, 0, 0, 0, 0, 0, 0, 0, 0, 0, 0, 0, 0, 0, 0, 0, NONE);
        // Both 0 at HOUR 0 and 1 from HOUR 1 on, and 1 from HOUR 0 on cost 3: HOUR 0 decides.
        CoatsFitTheMood y = cut(50, 50);
        Due.rule(y, "eases 15; fines 99; costs number * 3;");
        Due.moods(y, 0, 60);
        y.set(0, 0, 40);
        y.set(2, 0, 30);
        cheapest(y, 3, 0, 1);
        Due.moods(y, 0, 50);
        y.set(2, 0, 50);
        cheapest(y, 0, 0);
        // Changing is free: at each HOUR the first that FITS, none of them where none is fined as little.
        CoatsFitTheMood z = cut(50, 50);
        Due.rule(z, "eases 15; fines 99; costs 0;");
        Due.moods(z, 0, 50, 70, 90);
        z.set(2, 1, 70);
        cheapest(z, 8 * 99, 0, 1, NONE, 0, 1, NONE, 0, 1, NONE, 0, 1, NONE, 0, 1, NONE, 0, 1, NONE, 0, 1, NONE, 0, 1, NONE);
    }

    private void pushed() {
        e.says("T2", "PUSHED (one, from an HOUR on, by v): all MOODS from that HOUR on are v more (0 .. 99, else the bound).");
        CoatsFitTheMood x = cut();
        x.push(1, 20, 49);
        for (int hour = 0; hour < 24; hour++) e.is("told(" + (100 + hour) + ", 0)", x.told(100 + hour, 0), hour < 20 ? 50 : 99);
        x.push(1, 19, 1);
        e.is("told(119, 0)", x.told(119, 0), 51);
        e.is("99 and 1", x.told(120, 0), 99);
        x.push(1, 19, -99);
        e.is("51 less 99", x.told(119, 0), 0);
        e.is("99 less 99", x.told(120, 0), 0);
        e.is("told(118, 0)", x.told(118, 0), 50);
        x.push(1, 0, -50);
        e.is("50 less 50", x.told(100, 0), 0);
        x.push(1, 0, 99);
        e.is("0 and 99", x.told(100, 0), 99);
        e.is("another one", x.told(0, 0), 50);
        e.is("another one", x.told(223, 0), 50);
    }

    private void push() {
        CoatsFitTheMood x = cut();
        e.says("9", "PUSHED, truly: MOOD of that HOUR then.");
        e.is("push(0, 12, 10)", x.push(0, 12, 10), 60);
        e.is("told(12, 0)", x.told(12, 0), 60);
        e.is("push(0, 11, -99)", x.push(0, 11, -99), 0);
        e.is("push(0, 23, 99)", x.push(0, 23, 99), 99);
        e.is("push(0, 10, 99)", x.push(0, 10, 99), 99);
        e.is("push(0, 0, 0)", x.push(0, 0, 0), 50);
        e.is("told(9, 0)", x.told(9, 0), 50);
        e.says("9", "BAD: one, hour, v (-99 .. 99).");
        long before = Due.state(x);
        for (int one : NO_PEOPLE) e.is("push(" + one + ", 0, 1)", x.push(one, 0, 1), BAD);
        int[] noHours = {-1, 24, MOST, LEAST};
        for (int hour : noHours) e.is("push(0, " + hour + ", 1)", x.push(0, hour, 1), BAD);
        int[] noPushes = {-100, 100, MOST, LEAST};
        for (int v : noPushes) e.is("push(0, 0, " + v + ")", x.push(0, 0, v), BAD);
        e.is("nothing is pushed", Due.state(x), before);
        e.is("push(2, 23, -99)", x.push(2, 23, -99), 0);
        e.is("push(2, 0, 99)", x.push(2, 0, 99), 99);
    }

    private void plan() {
        CoatsFitTheMood x = cut(50, 0);
        Due.row(x, 3, 1, 0, 1, NONE);
        e.says("10", "What a PLAN that a SHEET tells COSTS one (what 0), its FINES alone (1), at how many HOURS it doesn't FIT (2).");
        for (int one = 0; one < 3; one++) {
            e.is("plan(3, " + one + ", 0)", x.plan(3, one, 0), 3 + 5 + 3 + 22 * 99);
            e.is("plan(3, " + one + ", 1)", x.plan(3, one, 1), 5 + 22 * 99);
            e.is("plan(3, " + one + ", 2)", x.plan(3, one, 2), 23);
        }
        x.set(0, 101, 0);
        e.is("plan(3, 1, 0)", x.plan(3, 1, 0), 3 + 3 + 22 * 99);
        e.is("plan(3, 1, 1)", x.plan(3, 1, 1), 22 * 99);
        e.is("plan(3, 1, 2)", x.plan(3, 1, 2), 22);
        for (int sort = 0; sort <= 2; sort++) {
            Due.row(x, 0, sort, times(0, 24));
            e.is("all day, sort " + sort, x.plan(0, 0, 0), 3);
            e.is("its FINES", x.plan(0, 0, 1), 0);
            e.is("all FIT", x.plan(0, 0, 2), 0);
        }
        // A FINE of 0 is a misfit still.
        Due.rule(x, "eases 0; fines 0; costs 0;");
        Due.row(x, 0, 0, times(1, 24));
        e.is("COSTS nothing", x.plan(0, 0, 0), 0);
        e.is("doesn't FIT", x.plan(0, 0, 2), 24);
        e.is("nothing is worn", x.count(1), 0);
    }

    private void planRefuses() {
        CoatsFitTheMood x = cut(50, 0);
        x.sheet(0, 0, 24);
        e.says("10", "BAD: SHEET, one, what;");
        for (int sheet : NO_SHEETS) e.is("plan(" + sheet + ", 0, 0)", x.plan(sheet, 0, 0), BAD);
        for (int one : NO_PEOPLE) e.is("plan(0, " + one + ", 0)", x.plan(0, one, 0), BAD);
        for (int what : NO_PEOPLE) e.is("plan(0, 0, " + what + ")", x.plan(0, 0, what), BAD);
        e.is("missing: plan(1, 3, 0)", x.plan(1, 3, 0), BAD);
        e.is("missing: plan(1, 0, 3)", x.plan(1, 0, 3), BAD);
        e.says("10", "-11;");
        for (int what = 0; what <= 2; what++) e.is("plan(1, 0, " + what + ")", x.plan(1, 0, what), NOTHING);
        x.sheet(0, -1, 0);
        e.is("missing again", x.plan(0, 0, 0), NOTHING);
        e.says("10", "BAD: it tells more than 24, or a COAT that isn't.");
        for (int sort = 0; sort <= 2; sort++) {
            x.sheet(0, sort, 25);
            e.is("25", x.plan(0, 0, 0), BAD);
            x.sheet(0, sort, 40);
            e.is("40", x.plan(0, 0, 0), BAD);
            x.sheet(0, sort, 24);
            e.is("24", x.plan(0, 0, 0), 3);
            x.cell(0, 23, 2);
            e.is("a third COAT", x.plan(0, 0, 0), BAD);
            x.cell(0, 23, -2);
            e.is("-2", x.plan(0, 0, 2), BAD);
            x.cell(0, 23, 8);
            e.is("8", x.plan(0, 0, 1), BAD);
            x.cell(0, 23, -1);
            e.is("NONE", x.plan(0, 0, 0), 3 + 99);
            x.cell(0, 0, 2);
            e.is("a third COAT at HOUR 0", x.plan(0, 0, 0), BAD);
            x.cell(0, 0, 1);
            e.is("the second COAT", x.plan(0, 0, 0), 3 + 5 + 3 + 99);
        }
        x.cell(0, 23, 256);
        e.is("256 is none such among ints", x.plan(0, 0, 0), BAD);
        x.cell(0, 23, LEAST);
        e.is("nor is the least", x.plan(0, 0, 0), BAD);
    }

    private void wear() {
        e.says("11", "It, truly WORN: what it COSTS one.");
        CoatsFitTheMood x = cut(50, 0);
        Due.row(x, 2, 2, 0, 1, 1, NONE);
        e.is("wear(2, 0)", x.wear(2, 0), 3 + 3 + 5 + 5 + 21 * 99);
        e.is("WORN", x.told(0, 3), 1);
        e.is("WORN", x.told(1, 3), 2);
        x.set(0, 101, 0);
        e.is("wear(2, 1)", x.wear(2, 1), 3 + 3 + 5 + 21 * 99);
        e.is("together", x.count(1), 6);
        Due.row(x, 2, 0);
        e.is("of none", x.wear(2, 2), 24 * 99);
        e.is("together", x.count(1), 6);
        e.says("11", "BAD, -11, BAD likewise.");
        for (int sheet : NO_SHEETS) e.is("wear(" + sheet + ", 0)", x.wear(sheet, 0), BAD);
        for (int one : NO_PEOPLE) e.is("wear(2, " + one + ")", x.wear(2, one), BAD);
        e.is("missing: wear(0, 3)", x.wear(0, 3), BAD);
        e.is("missing: wear(0, 0)", x.wear(0, 0), NOTHING);
        x.sheet(2, 0, 25);
        e.is("25", x.wear(2, 0), BAD);
        Due.row(x, 2, 0, 0, 0, 2);
        e.is("a COAT that isn't, behind others", x.wear(2, 0), BAD);
        Due.row(x, 2, 0, 0, 0, -2);
        e.is("-2, behind others", x.wear(2, 0), BAD);
        e.is("nothing is worn", x.count(1), 6);
        x.sheet(2, 0, 24);
        e.is("24", x.wear(2, 0), 3);
        e.is("together", x.count(1), 30);
    }

    private void day() {
        CoatsFitTheMood x = cut(20, 80);
        Due.moods(x, 2, 20, 80, 80, 80, 50, 80);
        e.says("12", "COVER (what 0; bits), how many (1), BARE (2; bits), CHANGES (3), CHEAP (4),");
        e.is("day(2, 0)", x.day(2, 0), 3);
        e.is("day(2, 1)", x.day(2, 1), 2);
        e.is("day(2, 2)", x.day(2, 2), 16 + 1024 + 65536 + 4194304);
        e.is("day(2, 3)", x.day(2, 3), 7);
        // 0 at HOUR 0, then 1: a misfit at the later HOURS of MOOD 20 and 50.
        e.is("day(2, 4)", x.day(2, 4), 3 + 3 + 7 * 5);
        e.is("of another: day(1, 2)", x.day(1, 2), ALL_HOURS);
        e.says("12", "what one wears by it at HOUR what less 10 (10 .. 33; NONE).");
        CoatsFitTheMood y = cut(20, 80, 50);
        Due.moods(y, 1, 80);
        y.set(0, 100, 20);
        y.set(0, 101, 20);
        y.set(0, 122, 50);
        y.set(0, 123, 50);
        e.is("day(1, 10)", y.day(1, 10), 0);
        e.is("day(1, 11)", y.day(1, 11), 0);
        e.is("day(1, 12)", y.day(1, 12), 1);
        e.is("day(1, 31)", y.day(1, 31), 1);
        e.is("day(1, 32)", y.day(1, 32), 2);
        e.is("day(1, 33)", y.day(1, 33), 2);
        CoatsFitTheMood none = cut();
        for (int what = 10; what <= 33; what++) e.is("without: day(0, " + what + ")", none.day(0, what), NONE);
        e.says("12", "BAD.");
        for (int one : NO_PEOPLE) for (int what = 0; what <= 4; what++) e.is("day(" + one + ", " + what + ")", x.day(one, what), BAD);
        for (int one : NO_PEOPLE) e.is("day(" + one + ", 33)", x.day(one, 33), BAD);
        int[] noWhats = {-1, 5, 6, 9, 34, 35, MOST, LEAST};
        for (int what : noWhats) e.is("day(0, " + what + ")", x.day(0, what), BAD);
    }

    private void dress() {
        e.says("13", "A SHEET truly becomes what one wears by CHEAP (bytes; 24): what it COSTS.");
        CoatsFitTheMood x = cut(20, 80);
        Due.moods(x, 2, 80);
        x.set(0, 223, 20);
        x.sheet(3, 2, 40);
        e.is("dress(3, 2)", x.dress(3, 2), 6);
        e.is("cell(3, 24, 0)", x.cell(3, 24, 0), -12);
        x.sheet(0, 0, 24);
        e.is("bytes", x.copy(3, 0, 0, 0, 24), 24);
        x.sheet(0, 1, 24);
        e.is("no shorts", x.copy(3, 0, 0, 0, 24), -13);
        e.is("its COST", x.plan(3, 2, 0), 6);
        e.is("its misfits", x.plan(3, 2, 2), 0);
        e.is("nothing is worn yet", x.count(1), 0);
        x.wear(3, 2);
        e.is("0 at the last HOUR", x.told(0, 3), 1);
        e.is("1 else", x.told(1, 3), 23);
        CoatsFitTheMood none = cut();
        e.is("without COATS: dress(1, 0)", none.dress(1, 0), 24 * 99);
        e.is("it tells 24", none.cell(1, 23, -1), 1);
        e.is("of none", none.wear(1, 0), 24 * 99);
        none.coat(0, 0, 50);
        e.is("of none still", none.plan(1, 0, 2), 24);
        e.says("13", "BAD.");
        for (int sheet : NO_SHEETS) e.is("dress(" + sheet + ", 0)", x.dress(sheet, 0), BAD);
        x.sheet(1, -1, 0);
        for (int one : NO_PEOPLE) e.is("dress(1, " + one + ")", x.dress(1, one), BAD);
        e.is("it stays missing", x.cell(1, 0, 0), NOTHING);
    }
}
