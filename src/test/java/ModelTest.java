import java.util.Random;

/** Long runs of calls, the same on each machine, asked of the class and of the model; all promises. */
public final class ModelTest {
    private static final Due due = new Due("ModelTest");
    private static final int RUNS = 400, CALLS = 512;

    private final Random random;
    private final CoatsFitTheMood x = new CoatsFitTheMood();
    private final Model y = new Model();
    private final int run;
    private final StringBuilder waiting = new StringBuilder();
    private final int manner;
    private int asked = 0;

    private ModelTest(int run) {
        this.run = run;
        random = new Random(run);
        manner = run % 4;
    }

    public static void main(String[] args) {
        for (int run = 0; run < RUNS; run++) new ModelTest(run).goes();
        due.end();
    }

    private void goes() {
        while (asked < CALLS) call();
    }

    /** What is answered behind the last of the calls is free. */
    private void same(String call, long got, long want) {
        asked++;
        if (asked <= CALLS) due.is("run " + run + ": " + call, got, want);
    }

    /** Of from .. to, now and then just outside, seldom far outside. */
    private int of(int from, int to) {
        int at = random.nextInt(60);
        if (at == 0) return from - 1;
        if (at == 1) return to + 1;
        if (at == 2) return random.nextInt();
        if (at == 3) return random.nextBoolean() ? Integer.MIN_VALUE : Integer.MAX_VALUE;
        return from + random.nextInt(to - from + 1);
    }

    private int coat() {
        return of(0, Math.max(0, y.count(0) - 1));
    }

    private int place() {
        return 100 * of(0, 2) + of(0, 23);
    }

    private void call() {
        if (waiting.length() > 0) {
            feedOn();
            return;
        }
        switch (random.nextInt(32)) {
            case 0:
            case 1: sets(); break;
            case 2: coats(); break;
            case 3: tolds(); break;
            case 4:
            case 5: asks(); break;
            case 6: feeds(); break;
            case 7: texts(); break;
            case 8: forces(); break;
            case 9: pushes(); break;
            case 10:
            case 11: plans(); break;
            case 12: wears(); break;
            case 13:
            case 14: days(); break;
            case 15: dresses(); break;
            case 16: anews(); break;
            case 17: wouldPush(); break;
            case 18: alls(); break;
            case 19: means(); break;
            case 20:
            case 21:
            case 22: tellings(); break;
            case 23: films(); break;
            case 24: drawns(); break;
            case 25: images(); break;
            case 26: counts(); break;
            case 27: sheets(); break;
            case 28:
            case 29: cells(); break;
            case 30: copies(); break;
            default: coatsCome(); break;
        }
    }

    private void sets() {
        int what = of(0, 3);
        int at = what == 0 ? place() : coat();
        int v = of(0, new int[] {99, 9, 99, 999}[Math.max(0, Math.min(3, what))]);
        same("set(" + what + ", " + at + ", " + v + ")", x.set(what, at, v), y.set(what, at, v));
    }

    private void coats() {
        int kind = of(0, 5);
        int number = of(0, 9);
        int cut = of(0, 99);
        if (manner == 3 && y.count(0) >= 3) return;
        same("coat(" + kind + ", " + number + ", " + cut + ")", x.coat(kind, number, cut), y.coat(kind, number, cut));
    }

    private void tolds() {
        int what = of(0, 6);
        int at = what == 0 || what == 5 ? place() : coat();
        same("told(" + at + ", " + what + ")", x.told(at, what), y.told(at, what));
    }

    private void asks() {
        int coat = random.nextInt(6) == 0 ? -1 : coat();
        int at = 100 * of(0, 99) + of(0, 23);
        int what = of(0, 3);
        same("asks(" + coat + ", " + at + ", " + what + ")", x.asks(coat, at, what), y.asks(coat, at, what));
    }

    private void feedOn() {
        int letter = waiting.charAt(0);
        waiting.deleteCharAt(0);
        same("feed(" + letter + ")", x.feed(letter), y.feed(letter));
        if (waiting.length() == 0) texts();
    }

    private void feeds() {
        if (manner == 0 || random.nextInt(3) == 0) {
            int letter = of(0, 255);
            same("feed(" + letter + ")", x.feed(letter), y.feed(letter));
        } else {
            waiting.append(Texts.some(random));
        }
    }

    private void texts() {
        same("text()", x.text(), y.text());
    }

    private void forces() {
        int text = of(0, Math.max(1, y.count(2) - 1));
        same("force(" + text + ")", x.force(text), y.force(text));
    }

    private void pushes() {
        int one = of(0, 2);
        int hour = of(0, 23);
        int v = random.nextBoolean() ? of(-99, 99) : of(-20, 20);
        same("push(" + one + ", " + hour + ", " + v + ")", x.push(one, hour, v), y.push(one, hour, v));
    }

    private void plans() {
        int sheet = of(0, 3);
        if (random.nextInt(3) > 0) tellPlan(sheet);
        int one = of(0, 2);
        int what = of(0, 2);
        same("plan(" + sheet + ", " + one + ", " + what + ")", x.plan(sheet, one, what), y.plan(sheet, one, what));
    }

    private void wears() {
        int sheet = of(0, 3);
        if (random.nextInt(3) > 0) tellPlan(sheet);
        int one = of(0, 2);
        same("wear(" + sheet + ", " + one + ")", x.wear(sheet, one), y.wear(sheet, one));
    }

    private void tellPlan(int sheet) {
        int sort = random.nextInt(3);
        int n = random.nextInt(25);
        same("sheet(" + sheet + ", " + sort + ", " + n + ")", x.sheet(sheet, sort, n), y.sheet(sheet, sort, n));
        int coat = -1;
        for (int i = 0; i < n; i++) {
            if (random.nextInt(3) == 0) coat = random.nextInt(y.count(0) + 1) - 1;
            same("cell(" + sheet + ", " + i + ", " + coat + ")", x.cell(sheet, i, coat), y.cell(sheet, i, coat));
        }
    }

    private void days() {
        int one = of(0, 2);
        int what = random.nextBoolean() ? of(0, 4) : of(10, 33);
        same("day(" + one + ", " + what + ")", x.day(one, what), y.day(one, what));
    }

    private void dresses() {
        int sheet = of(0, 3);
        int one = of(0, 2);
        same("dress(" + sheet + ", " + one + ")", x.dress(sheet, one), y.dress(sheet, one));
    }

    private void anews() {
        int coat = coat();
        int one = of(0, 2);
        int what = of(0, 1);
        same("anew(" + coat + ", " + one + ", " + what + ")", x.anew(coat, one, what), y.anew(coat, one, what));
    }

    private void wouldPush() {
        int one = of(0, 2);
        int v = random.nextBoolean() ? of(-99, 99) : of(-20, 20);
        int what = of(0, 1);
        same("pushes(" + one + ", " + v + ", " + what + ")", x.pushes(one, v, what), y.pushes(one, v, what));
    }

    private void alls() {
        int what = of(0, 2);
        same("all(" + what + ")", x.all(what), y.all(what));
    }

    private void means() {
        int one = of(0, 2);
        int part = of(0, 1);
        same("mean(" + one + ", " + part + ")", x.mean(one, part), y.mean(one, part));
    }

    private void tellings() {
        int sheet = of(0, 3);
        int coat = coat();
        int hour = of(0, 23);
        if (random.nextInt(3) > 0) {
            int n = of(0, 40);
            same("film(" + sheet + ", " + coat + ", " + hour + ", " + n + ")", x.film(sheet, coat, hour, n), y.film(sheet, coat, hour, n));
            if (random.nextInt(3) == 0) hour = of(0, 23);
            if (random.nextInt(3) == 0) coat = coat();
        }
        int what = of(0, 8);
        same("tells(" + sheet + ", " + coat + ", " + hour + ", " + what + ")", x.tells(sheet, coat, hour, what), y.tells(sheet, coat, hour, what));
    }

    private void films() {
        int sheet = of(0, 3);
        int coat = coat();
        int hour = of(0, 23);
        int n = of(0, 40);
        same("film(" + sheet + ", " + coat + ", " + hour + ", " + n + ")", x.film(sheet, coat, hour, n), y.film(sheet, coat, hour, n));
    }

    private void drawns() {
        int seed = random.nextInt(8) == 0 ? Integer.MAX_VALUE - random.nextInt(5) : random.nextInt();
        int one = of(0, 2);
        int m = of(1, 10);
        int k = random.nextInt(4) == 0 ? of(0, 9999) : Math.max(0, Math.min(9999, y.drawn(seed, 0) + random.nextInt(3) - 1));
        int part = of(0, 1);
        same("drawn(" + seed + ", " + one + ")", x.drawn(seed, one), y.drawn(seed, one));
        same("chance(" + seed + ", " + m + ", " + one + ", " + k + ", " + part + ")", x.chance(seed, m, one, k, part), y.chance(seed, m, one, k, part));
    }

    private void images() {
        if (random.nextInt(3) == 0) same("image()", x.image(), y.image());
        else same("back()", x.back(), y.back());
    }

    private void counts() {
        int what = of(0, 4);
        same("count(" + what + ")", x.count(what), y.count(what));
    }

    private void sheets() {
        int sheet = of(0, 3);
        int sort = of(-1, 2);
        int n = of(0, 40);
        same("sheet(" + sheet + ", " + sort + ", " + n + ")", x.sheet(sheet, sort, n), y.sheet(sheet, sort, n));
    }

    private void cells() {
        int sheet = of(0, 3);
        int i = of(0, 39);
        int v = random.nextBoolean() ? of(-1, 10) : random.nextInt(1 << 18) - (1 << 17);
        same("cell(" + sheet + ", " + i + ", " + v + ")", x.cell(sheet, i, v), y.cell(sheet, i, v));
    }

    private void copies() {
        int sheet = of(0, 3);
        int other = of(0, 3);
        int i = of(0, 20);
        int j = of(0, 20);
        int n = of(0, 20);
        same("copy(" + sheet + ", " + i + ", " + other + ", " + j + ", " + n + ")", x.copy(sheet, i, other, j, n), y.copy(sheet, i, other, j, n));
    }

    private void coatsCome() {
        int sheet = of(0, 3);
        int sort = of(0, 2);
        int n = of(0, 8);
        int from = of(0, 9);
        if (manner == 3 && y.count(0) >= 3) return;
        if (random.nextInt(3) > 0) {
            int size = random.nextInt(41);
            same("sheet(" + sheet + ", " + sort + ", " + size + ")", x.sheet(sheet, sort, size), y.sheet(sheet, sort, size));
            for (int i = 0; i < size; i++) {
                int v = of(0, i % 3 == 0 ? 5 : i % 3 == 1 ? 9 : 99);
                same("cell(" + sheet + ", " + i + ", " + v + ")", x.cell(sheet, i, v), y.cell(sheet, i, v));
            }
        }
        same("coats(" + sheet + ", " + sort + ", " + from + ", " + n + ")", x.coats(sheet, sort, from, n), y.coats(sheet, sort, from, n));
    }
}
