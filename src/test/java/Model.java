import java.util.ArrayList;
import java.util.Arrays;
import java.util.List;

/**
 * The document told once more, slowly and in other ways than the class does: trees for texts, every plan
 * compared with every other one, all sets of coats in order. ModelTest asks both the same.
 */
final class Model {
    static final int NONE = -1, BAD = -2, STATE = -3, FULL = -4;
    static final long NO = -4611686018427387904L;

    /** A coat as it was told, never changed in place. */
    record Worn(int kind, int number, int cut, int worn) {
        Worn with(int what, int v) {
            return new Worn(what == 4 ? v : kind, what == 1 ? v : number, what == 2 ? v : cut, what == 3 ? v : worn);
        }

        int trait(int what) {
            return new int[] {0, number, cut, worn, kind}[what];
        }

        int off(int mood) {
            return Math.abs(mood - cut);
        }
    }

    interface E {
        int of(Worn c, int mood, int hour);
    }

    record Rule(E eases, E fines, E costs) {
    }

    record Kept(int[][] moods, List<Worn> coats, int rule) {
    }

    static final class Fault extends RuntimeException {
        final int place;

        Fault(int place) {
            super(null, null, false, false);
            this.place = place;
        }
    }

    int[][] moods = new int[3][24];
    List<Worn> coats = new ArrayList<>();
    List<Rule> texts = new ArrayList<>();
    int rule = 0;
    StringBuilder tape = new StringBuilder();
    Kept kept = null;
    int[] sorts = {-1, -1, -1, -1};
    int[][] rows = new int[4][];

    Model() {
        for (int[] row : moods) Arrays.fill(row, 50);
        texts.add(new Rule((c, m, h) -> 15, (c, m, h) -> 5, (c, m, h) -> 3));
    }

    // ---- fitting

    static int clamp(int v) {
        return v < 0 ? 0 : v > 99 ? 99 : v;
    }

    boolean fits(Rule by, Worn c, int mood, int hour) {
        int v = clamp(by.eases().of(c, mood, hour));
        return fits(c.kind(), v, c, mood);
    }

    private static boolean fits(int kind, int v, Worn c, int mood) {
        switch (kind) {
            case 0: return c.off(mood) <= v;
            case 1: return 2 * c.off(mood) <= v;
            case 2: return c.off(mood) <= 10 + v;
            case 3: return fits(1, v, c, mood) && mood < 50;
            case 4: return !fits(2, v, c, mood);
            default: return fits(0, v, c, mood) || mood % 10 == c.number();
        }
    }

    int fine(Worn c, int mood, int hour) {
        if (c == null) return 99;
        return clamp(fine(c.kind(), clamp(texts.get(rule).fines().of(c, mood, hour)), c));
    }

    private static int fine(int kind, int v, Worn c) {
        switch (kind) {
            case 0: return v;
            case 1: return fine(0, v, c) + 2;
            case 2: return fine(0, v, c) / 2;
            case 3: return 2 * fine(1, v, c);
            case 4: return c.number();
            default: return 99;
        }
    }

    int cost(Worn c, int mood, int hour) {
        if (c == null) return 0;
        return clamp(cost(c.kind(), clamp(texts.get(rule).costs().of(c, mood, hour)), c));
    }

    private static int cost(int kind, int v, Worn c) {
        switch (kind) {
            case 0: return v;
            case 1: return c.number() + cost(0, v, c);
            case 2: return cost(0, v, c);
            case 3: return cost(1, v, c);
            case 4: return 3 + cost(2, v, c);
            default: return 0;
        }
    }

    private boolean fitsNow(int coat, int mood, int hour) {
        return fits(texts.get(rule), coats.get(coat), mood, hour);
    }

    private boolean isCoat(int c) {
        return 0 <= c && c < coats.size();
    }

    private static boolean in(int v, int from, int to) {
        return from <= v && v <= to;
    }

    private static boolean place(int of) {
        return of >= 0 && of / 100 <= 2 && of % 100 <= 23;
    }

    // ---- moods, coats

    int set(int what, int of, int v) {
        if (!in(what, 0, 3)) return BAD;
        if (what == 0 ? !place(of) : !isCoat(of)) return BAD;
        if (!in(v, 0, new int[] {99, 9, 99, 999}[what])) return BAD;
        int was = told(of, what);
        if (what == 0) moods[of / 100][of % 100] = v;
        else coats.set(of, coats.get(of).with(what, v));
        return was;
    }

    int coat(int kind, int number, int cut) {
        if (!in(kind, 0, 5) || !in(number, 0, 9) || !in(cut, 0, 99)) return BAD;
        if (coats.size() == 8) return FULL;
        coats.add(new Worn(kind, number, cut, 0));
        return coats.size() - 1;
    }

    int told(int of, int what) {
        if (!in(what, 0, 6)) return BAD;
        if (what == 0 || what == 5 ? !place(of) : !isCoat(of)) return BAD;
        if (what == 0) return moods[of / 100][of % 100];
        if (what == 5) return right(moods[of / 100], of % 100);
        if (what == 6) return hours(coats.get(of), 0) + hours(coats.get(of), 1) + hours(coats.get(of), 2);
        return coats.get(of).trait(what);
    }

    private int right(int[] day, int hour) {
        int bits = 0;
        for (int c = 0; c < coats.size(); c++) bits += fitsNow(c, day[hour], hour) ? 1 << c : 0;
        return bits;
    }

    private int hours(Worn c, int one) {
        int n = 0;
        for (int h = 0; h < 24; h++) n += fits(texts.get(rule), c, moods[one][h], h) ? 1 : 0;
        return n;
    }

    int asks(int coat, int moodHour, int what) {
        if (coat != NONE && !isCoat(coat)) return BAD;
        if (!in(moodHour, 0, 9999) || moodHour % 100 > 23 || !in(what, 0, 3)) return BAD;
        int mood = moodHour / 100;
        int hour = moodHour % 100;
        Worn c = coat == NONE ? null : coats.get(coat);
        if (what == 0) return c != null && fitsNow(coat, mood, hour) ? 1 : 0;
        if (what == 1) return fine(c, mood, hour);
        if (what == 2) return cost(c, mood, hour);
        return c == null ? 99 : c.off(mood);
    }

    // ---- texts

    int feed(int letter) {
        if (!in(letter, 0, 255)) return BAD;
        if (tape.length() == 160) return FULL;
        tape.append((char) letter);
        return tape.length();
    }

    int text() {
        if (texts.size() == 6) return FULL;
        String whole = tape.toString();
        tape.setLength(0);
        try {
            texts.add(new Grammar(whole).text());
            return texts.size() - 1;
        } catch (Fault f) {
            return -100 - f.place;
        }
    }

    int force(int text) {
        if (!in(text, 0, texts.size() - 1)) return BAD;
        int was = rule;
        rule = text;
        return was;
    }

    /** The grammar as the document writes it, a function for each of its lines. */
    private static final class Grammar {
        private final String text;
        private int at = 0;
        private int open = 0;

        Grammar(String text) {
            this.text = text;
        }

        Rule text() {
            E[] es = new E[3];
            String[] keys = {"eases", "fines", "costs"};
            for (int i = 0; i < 3; i++) {
                need(keys[i]);
                es[i] = e();
                need(";");
            }
            if (!peek().equals("")) throw new Fault(start());
            return new Rule(es[0], es[1], es[2]);
        }

        private int start() {
            int p = at;
            while (p < text.length() && (text.charAt(p) == ' ' || text.charAt(p) == '\n')) p++;
            return p;
        }

        /** The next token, "" at the end, "?" for one that stands nowhere. */
        private String peek() {
            int p = start();
            if (p == text.length()) return "";
            int q = p;
            while (q < text.length() && text.charAt(q) >= 'a' && text.charAt(q) <= 'z') q++;
            if (q == p) while (q < text.length() && text.charAt(q) >= '0' && text.charAt(q) <= '9') q++;
            if (q == p) return "();+-*<=".indexOf(text.charAt(p)) >= 0 ? text.substring(p, p + 1) : "?";
            return text.substring(p, q);
        }

        private String take() {
            String t = peek();
            at = start() + t.length();
            return t;
        }

        private void need(String t) {
            if (!peek().equals(t)) throw new Fault(start());
            take();
        }

        private void opens() {
            if (open == 5) throw new Fault(start());
            open++;
            take();
        }

        private E e() {
            E left = and();
            while (peek().equals("or")) {
                take();
                E a = left;
                E b = and();
                left = (c, m, h) -> a.of(c, m, h) != 0 | b.of(c, m, h) != 0 ? 1 : 0;
            }
            return left;
        }

        private E and() {
            E left = not();
            while (peek().equals("and")) {
                take();
                E a = left;
                E b = not();
                left = (c, m, h) -> a.of(c, m, h) != 0 & b.of(c, m, h) != 0 ? 1 : 0;
            }
            return left;
        }

        private E not() {
            if (peek().equals("not")) {
                opens();
                E a = not();
                open--;
                return (c, m, h) -> a.of(c, m, h) == 0 ? 1 : 0;
            }
            E a = sum();
            if (peek().equals("<")) {
                take();
                E b = sum();
                return (c, m, h) -> a.of(c, m, h) < b.of(c, m, h) ? 1 : 0;
            }
            if (peek().equals("=")) {
                take();
                E b = sum();
                return (c, m, h) -> a.of(c, m, h) == b.of(c, m, h) ? 1 : 0;
            }
            return a;
        }

        private E sum() {
            E left = term();
            while (peek().equals("+") || peek().equals("-")) {
                int sign = take().equals("+") ? 1 : -1;
                E a = left;
                E b = term();
                left = (c, m, h) -> a.of(c, m, h) + sign * b.of(c, m, h);
            }
            return left;
        }

        private E term() {
            E left = one();
            while (peek().equals("*")) {
                take();
                E a = left;
                E b = one();
                left = (c, m, h) -> a.of(c, m, h) * b.of(c, m, h);
            }
            return left;
        }

        private E one() {
            String t = peek();
            if (t.equals("-")) {
                opens();
                E a = one();
                open--;
                return (c, m, h) -> -a.of(c, m, h);
            }
            if (t.equals("(")) {
                opens();
                E a = e();
                need(")");
                open--;
                return a;
            }
            if (t.matches("[0-9]{1,4}")) {
                int v = Integer.parseInt(t);
                take();
                return (c, m, h) -> v;
            }
            E name = name(t);
            if (name == null) throw new Fault(start());
            take();
            return name;
        }

        private static E name(String t) {
            switch (t) {
                case "cut": return (c, m, h) -> c.cut();
                case "mood": return (c, m, h) -> m;
                case "number": return (c, m, h) -> c.number();
                case "hour": return (c, m, h) -> h;
                case "worn": return (c, m, h) -> c.worn();
                case "off": return (c, m, h) -> c.off(m);
                default: return null;
            }
        }
    }

    // ---- days

    private int[] pushed(int one, int hour, int v) {
        int[] day = moods[one].clone();
        for (int h = hour; h < 24; h++) day[h] = clamp(day[h] + v);
        return day;
    }

    int push(int one, int hour, int v) {
        if (!in(one, 0, 2) || !in(hour, 0, 23) || !in(v, -99, 99)) return BAD;
        moods[one] = pushed(one, hour, v);
        return moods[one][hour];
    }

    /** FINES, COSTS, misfits of a whole plan. */
    private int[] bill(int[] plan, int[] day) {
        int[] bill = new int[3];
        for (int h = 0; h < 24; h++) {
            Worn c = plan[h] == NONE ? null : coats.get(plan[h]);
            boolean fits = c != null && fitsNow(plan[h], day[h], h);
            if (!fits) bill[0] += fine(c, day[h], h);
            if (!fits) bill[2]++;
            if (c != null && (h == 0 || plan[h - 1] != plan[h])) bill[1] += cost(c, day[h], h);
        }
        return bill;
    }

    private int planRefused(int sheet) {
        if (sorts[sheet] < 0) return -11;
        if (rows[sheet].length > 24) return BAD;
        for (int c : rows[sheet]) if (c != NONE && !isCoat(c)) return BAD;
        return 0;
    }

    private int[] planOf(int sheet) {
        int[] plan = new int[24];
        for (int h = 0; h < 24; h++) plan[h] = h < rows[sheet].length ? rows[sheet][h] : NONE;
        return plan;
    }

    int plan(int sheet, int one, int what) {
        if (!in(sheet, 0, 3) || !in(one, 0, 2) || !in(what, 0, 2)) return BAD;
        if (planRefused(sheet) != 0) return planRefused(sheet);
        int[] bill = bill(planOf(sheet), moods[one]);
        return what == 0 ? bill[0] + bill[1] : what == 1 ? bill[0] : bill[2];
    }

    int wear(int sheet, int one) {
        int costs = plan(sheet, one, 0);
        if (costs < 0) return costs;
        for (int c : planOf(sheet)) {
            if (c != NONE) coats.set(c, coats.get(c).with(3, Math.min(999, coats.get(c).worn() + 1)));
        }
        return costs;
    }

    /** The first of the cheapest plans, HOUR by HOUR from the last one: of all that go on from each choice. */
    private int[] cheap(int[] day) {
        int n = coats.size();
        int[][] plans = new int[n + 1][0];
        int[] costs = new int[n + 1];
        for (int h = 23; h >= 0; h--) {
            int[][] next = new int[n + 1][];
            int[] nextCosts = new int[n + 1];
            for (int before = -1; before < n; before++) {
                for (int c = -1; c < n; c++) {
                    int own = 0;
                    if (c == -1) own = 99;
                    else if (!fitsNow(c, day[h], h)) own = fine(coats.get(c), day[h], h);
                    if (c != -1 && c != before) own += cost(coats.get(c), day[h], h);
                    int all = own + costs[c + 1];
                    int[] plan = new int[24 - h];
                    plan[0] = c;
                    System.arraycopy(plans[c + 1], 0, plan, 1, 23 - h);
                    boolean better = next[before + 1] == null || all < nextCosts[before + 1]
                        || all == nextCosts[before + 1] && Arrays.compare(plan, next[before + 1]) < 0;
                    if (better) {
                        next[before + 1] = plan;
                        nextCosts[before + 1] = all;
                    }
                }
            }
            plans = next;
            costs = nextCosts;
        }
        return plans[0];
    }

    private int cheapCost(int[] day) {
        int[] bill = bill(cheap(day), day);
        return bill[0] + bill[1];
    }

    private int cover(int[] day) {
        for (int size = 0; size <= 8; size++) {
            for (int bits = 0; bits < 1 << coats.size(); bits++) {
                if (Integer.bitCount(bits) != size) continue;
                boolean all = true;
                for (int h = 0; h < 24; h++) all &= right(day, h) == 0 || (right(day, h) & bits) != 0;
                if (all) return bits;
            }
        }
        return -99;
    }

    private int bare(int[] day) {
        int bits = 0;
        for (int h = 0; h < 24; h++) bits |= right(day, h) == 0 ? 1 << h : 0;
        return bits;
    }

    private int changes(int[] day) {
        int n = coats.size();
        if (n == 0) return 0;
        int[] fewest = new int[n];
        for (int h = 0; h < 24; h++) {
            int right = right(day, h);
            int[] next = new int[n];
            for (int c = 0; c < n; c++) {
                next[c] = 9999;
                if (right != 0 && (right >> c & 1) == 0) continue;
                for (int before = 0; before < n; before++) {
                    next[c] = Math.min(next[c], fewest[before] + (h > 0 && before != c ? 1 : 0));
                }
            }
            fewest = next;
        }
        return Arrays.stream(fewest).min().getAsInt();
    }

    int day(int one, int what) {
        if (!in(one, 0, 2) || !in(what, 0, 4) && !in(what, 10, 33)) return BAD;
        int[] day = moods[one];
        switch (what) {
            case 0: return cover(day);
            case 1: return Integer.bitCount(cover(day));
            case 2: return bare(day);
            case 3: return changes(day);
            case 4: return cheapCost(day);
            default: return cheap(day)[what - 10];
        }
    }

    int dress(int sheet, int one) {
        if (!in(sheet, 0, 3) || !in(one, 0, 2)) return BAD;
        sorts[sheet] = 0;
        rows[sheet] = cheap(moods[one]);
        return cheapCost(moods[one]);
    }

    // ---- what would be best

    int anew(int coat, int one, int what) {
        if (!isCoat(coat) || !in(one, 0, 2) || !in(what, 0, 1)) return BAD;
        int best = 99;
        for (int cut = 98; cut >= 0; cut--) {
            if (hours(coats.get(coat).with(2, cut), one) >= hours(coats.get(coat).with(2, best), one)) best = cut;
        }
        return what == 0 ? best : hours(coats.get(coat).with(2, best), one);
    }

    int pushes(int one, int v, int what) {
        if (!in(one, 0, 2) || !in(v, -99, 99) || !in(what, 0, 1)) return BAD;
        int best = 23;
        for (int h = 22; h >= 0; h--) {
            if (cheapCost(pushed(one, h, v)) <= cheapCost(pushed(one, best, v))) best = h;
        }
        return what == 0 ? best : cheapCost(pushed(one, best, v));
    }

    int all(int what) {
        if (!in(what, 0, 2)) return BAD;
        if (what == 0) {
            int bits = 0;
            for (int c = 0; c < coats.size(); c++) bits |= told(c, 6) == 0 ? 1 << c : 0;
            return bits;
        }
        int[] far = {apart(0, 1), apart(0, 2), apart(1, 2)};
        int least = Math.min(far[0], Math.min(far[1], far[2]));
        if (what == 2) return least;
        return far[0] == least ? 1 : far[1] == least ? 2 : 12;
    }

    private int apart(int a, int b) {
        int sum = 0;
        for (int h = 0; h < 24; h++) sum += Math.max(moods[a][h], moods[b][h]) - Math.min(moods[a][h], moods[b][h]);
        return sum;
    }

    private static long lowest(int above, int below, int part) {
        int a = above;
        int b = below;
        while (b != 0) {
            int r = a % b;
            a = b;
            b = r;
        }
        return part == 0 ? above / a : below / a;
    }

    long mean(int one, int part) {
        if (!in(one, 0, 2) || !in(part, 0, 1)) return NO;
        return lowest(Arrays.stream(moods[one]).sum(), 24, part);
    }

    // ---- coats that were told

    private boolean so(int sheet, Rule by, Worn c, int hour) {
        boolean so = true;
        for (int m = 0; m < rows[sheet].length; m++) so &= rows[sheet][m] == (fits(by, c, m, hour) ? 1 : 0);
        return so;
    }

    int tells(int sheet, int coat, int hour, int what) {
        if (!in(sheet, 0, 3) || !isCoat(coat) || !in(hour, 0, 23) || !in(what, 0, 8)) return BAD;
        if (sorts[sheet] < 0) return -11;
        Rule by = texts.get(rule);
        Worn c = coats.get(coat);
        if (what == 0) {
            for (int m = 0; m < rows[sheet].length; m++) {
                if (rows[sheet][m] != (fits(by, c, m, hour) ? 1 : 0)) return m;
            }
            return NONE;
        }
        List<Integer> good = new ArrayList<>();
        int[] trait = {0, 4, 1, 2, 2, 3, 3, 0, 0};
        int[] most = {0, 6, 10, 100, 100, 100, 100, texts.size(), 24};
        for (int v = 0; v < most[what]; v++) {
            boolean so = what == 7 ? so(sheet, texts.get(v), c, hour)
                : what == 8 ? so(sheet, by, c, v) : so(sheet, by, c.with(trait[what], v), hour);
            if (so) good.add(v);
        }
        if (what == 3 || what == 5) return good.size();
        if (what == 4 || what == 6) return good.isEmpty() ? NONE : good.get(0);
        int bits = 0;
        for (int v : good) bits |= 1 << v;
        return bits;
    }

    int film(int sheet, int coat, int hour, int n) {
        if (!in(sheet, 0, 3) || !isCoat(coat) || !in(hour, 0, 23) || !in(n, 0, 40)) return BAD;
        sorts[sheet] = 0;
        rows[sheet] = new int[n];
        for (int m = 0; m < n; m++) rows[sheet][m] = fitsNow(coat, m, hour) ? 1 : 0;
        return Arrays.stream(rows[sheet]).sum();
    }

    int drawn(int seed, int one) {
        if (!in(one, 0, 2)) return BAD;
        int[] day = new int[24];
        int z = seed;
        for (int h = 0; h < 24; h++) {
            z = (int) (z * 1103515245L + 12345L);
            day[h] = (int) (((z & 0xffffffffL) / 512) % 100);
        }
        return cheapCost(day);
    }

    long chance(int seed, int m, int one, int k, int part) {
        if (!in(m, 1, 10) || !in(one, 0, 2) || !in(k, 0, 9999) || !in(part, 0, 1)) return NO;
        int n = 0;
        for (int i = 0; i < m; i++) n += drawn((int) (seed + (long) i), one) <= k ? 1 : 0;
        return lowest(n, m, part);
    }

    private static int[][] copyOf(int[][] days) {
        return new int[][] {days[0].clone(), days[1].clone(), days[2].clone()};
    }

    int image() {
        kept = new Kept(copyOf(moods), new ArrayList<>(coats), rule);
        return coats.size();
    }

    int back() {
        if (kept == null) return STATE;
        moods = copyOf(kept.moods());
        coats = new ArrayList<>(kept.coats());
        rule = kept.rule();
        return coats.size();
    }

    int count(int what) {
        switch (what) {
            case 0: return coats.size();
            case 1: return coats.stream().mapToInt(Worn::worn).sum();
            case 2: return texts.size();
            case 3: return tape.length();
            case 4: return rule;
            default: return BAD;
        }
    }

    // ---- the host

    int sheet(int sheet, int sort, int n) {
        if (!in(sheet, 0, 3) || !in(sort, -1, 2)) return BAD;
        if (sort != -1 && n > 40) return BAD;
        if (sort != -1 && n < 0) return -14;
        sorts[sheet] = sort;
        rows[sheet] = sort == -1 ? null : new int[n];
        return 1;
    }

    int cell(int sheet, int i, int v) {
        if (!in(sheet, 0, 3)) return BAD;
        if (sorts[sheet] == -1) return -11;
        if (i < 0 || i >= rows[sheet].length) return -12;
        rows[sheet][i] = sorts[sheet] == 0 ? (v << 24) >> 24 : sorts[sheet] == 1 ? (v << 16) >> 16 : v;
        return 1;
    }

    int copy(int sheet, int i, int other, int j, int n) {
        if (!in(sheet, 0, 3) || !in(other, 0, 3)) return BAD;
        if (sorts[sheet] == -1 || sorts[other] == -1) return -11;
        if (sorts[sheet] != sorts[other]) return -13;
        if (i < 0 || j < 0 || n < 0) return -12;
        if ((long) i + n > rows[sheet].length || (long) j + n > rows[other].length) return -12;
        int[] were = rows[sheet].clone();
        for (int k = 0; k < n; k++) rows[other][j + k] = were[i + k];
        return n;
    }

    int coats(int sheet, int sort, int from, int n) {
        if (!in(sheet, 0, 3) || !in(sort, 0, 2) || !in(n, 0, 8)) return BAD;
        if (sorts[sheet] != -1 && sorts[sheet] != sort) return -13;
        if (sorts[sheet] == -1) return -11;
        int came = 0;
        for (long at = from; at < from + 3L * n; at += 3) {
            if (at < 0 || at + 2 >= rows[sheet].length) return -12;
            int[] row = rows[sheet];
            if (coat(row[(int) at], row[(int) at + 1], row[(int) at + 2]) >= 0) came++;
        }
        return came;
    }

    int taken(int coat, int k) {
        if (!in(k, 0, 5)) return BAD;
        if (!isCoat(coat)) return -11;
        String[] under = {"0", "10", "20", "310", "420", "50"};
        Worn c = coats.get(coat);
        return under[c.kind()].indexOf('0' + k) >= 0 ? c.number() : -13;
    }
}
