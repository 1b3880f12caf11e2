/** Moods by the hour, a drawer of coats, and the rule of texts by which they fit: see ../shared/DOC.md. */
public final class CoatsFitTheMood {
    public static final int NONE = -1, BAD = -2, STATE = -3, FULL = -4;
    public static final long NO = -4611686018427387904L;

    private static final int NOTHING = -11, OUTSIDE = -12, UNLIKE = -13, BELOW = -14;

    private static final int PEOPLE = 3, HOURS = 24, MOODS = 100, CALM = 50, BOUND = 99;
    private static final int MOST_COATS = 8, CHOICES = 9, CUTS = 100, NUMBERS = 10;
    private static final int WORN_TOLD = 100, MOST_WORN = 999;
    private static final int MOST_TEXTS = 6, TAPE_SIZE = 160, SHEETS = 4, MOST_ITEMS = 40;
    private static final int MOST_SEEDS = 10, MOST_K = 9999;
    private static final int DAY_FIRST = 10;
    /** More than any day COSTS. */
    private static final int TOO_DEAR = 1000000;

    private static final int TIGHT = 1, LOOSE = 2, GRIEF = 3, IRONY = 4, FALSE = 5, KINDS = 6;
    private static final int[] KIND_ABOVE = {-1, 0, 0, 1, 2, 0};

    /** What may be told of a COAT, by the numbers that set() and told() use. */
    private static final int ITS_NUMBER = 1, ITS_CUT = 2, ITS_WORN = 3, ITS_KIND = 4;
    /** What else may be otherwise where a SHEET is read back. */
    private static final int THE_TEXT = 5, THE_HOUR = 6;

    private static final int EASES = 0, FINES = 1, COSTS = 2, PARTS = 3;

    private static final int MISSING = -1, BYTES = 0, SHORTS = 1, INTS = 2;

    /** TOKENS: a SIGN is its own byte, so all others stand below or above the bytes. */
    private static final int END = 0, FAULTY = 1, NUMBER = 2;
    private static final int KEY_EASES = 300, KEY_FINES = 301, KEY_COSTS = 302;
    private static final int OR = 303, AND = 304, NOT = 305, NEGATE = 306;
    private static final int CUT = 310, MOOD = 311, ITS_DIGIT = 312, HOUR = 313, WORN = 314, OFF = 315;

    /** Levels of the grammar: each is made of the one below it. */
    private static final int ORS = 0, ANDS = 1, NOTS = 2, SUMS = 3, TERMS = 4, ONES = 5;
    private static final int MOST_OPEN = 5, MOST_DIGITS = 4;
    /** Five operands may wait on each of six levels of brackets, one more is in hand. */
    private static final int STACK_SIZE = 40;

    private final int[] moods = new int[PEOPLE * HOURS];
    private final Coat[] drawer = new Coat[MOST_COATS];
    private int owned = 0;
    private final Coat trial = new Coat();
    private final Text[] texts = new Text[MOST_TEXTS];
    private int written = 1;
    private int rule = 0;
    private final Tape tape = new Tape();
    private final Reader reader = new Reader(tape);
    private final Sheet[] sheets = new Sheet[SHEETS];
    private final Day choices = new Day();
    private final int[] rights = new int[HOURS];
    private final Image kept = new Image();

    public CoatsFitTheMood() {
        for (int i = 0; i < moods.length; i++) moods[i] = CALM;
        for (int i = 0; i < MOST_COATS; i++) drawer[i] = new Coat();
        for (int i = 0; i < MOST_TEXTS; i++) texts[i] = new Text();
        for (int i = 0; i < SHEETS; i++) sheets[i] = new Sheet();
        texts[0].becomeFixed(15, 5, 3);
    }

    // ---- moods, coats

    public int set(int what, int of, int v) {
        if (what == 0) return setMood(of, v);
        if (what < ITS_NUMBER || what > ITS_WORN || !isCoat(of)) return BAD;
        if (v < 0 || v > mostOf(what)) return BAD;
        int was = drawer[of].trait(what);
        drawer[of].giveTrait(what, v);
        return was;
    }

    private int setMood(int of, int v) {
        if (!isPlace(of) || v < 0 || v >= MOODS) return BAD;
        int was = moodAt(of / 100, of % 100);
        giveMood(of / 100, of % 100, v);
        return was;
    }

    public int coat(int kind, int number, int cut) {
        if (kind < 0 || kind >= KINDS || number < 0 || number >= NUMBERS) return BAD;
        if (cut < 0 || cut >= CUTS) return BAD;
        if (owned >= MOST_COATS) return FULL;
        drawer[owned].comeAs(kind, number, cut);
        owned++;
        return owned - 1;
    }

    public int told(int of, int what) {
        if (what == 0) return isPlace(of) ? moodAt(of / 100, of % 100) : BAD;
        if (what == 5) return isPlace(of) ? rightAt(of / 100, of % 100) : BAD;
        if (what < 0 || what > 6 || !isCoat(of)) return BAD;
        if (what == 6) return hoursOfEverybody(drawer[of]);
        return drawer[of].trait(what);
    }

    public int asks(int coat, int moodHour, int what) {
        if (coat != NONE && !isCoat(coat)) return BAD;
        if (moodHour < 0 || moodHour / 100 >= MOODS || moodHour % 100 >= HOURS) return BAD;
        int mood = moodHour / 100;
        int hour = moodHour % 100;
        switch (what) {
            case 0: return coat != NONE && fitsAt(texts[rule], drawer[coat], mood, hour) ? 1 : 0;
            case 1: return fineAt(coat, mood, hour);
            case 2: return costAt(coat, mood, hour);
            case 3: return coat == NONE ? BOUND : drawer[coat].off(mood);
            default: return BAD;
        }
    }

    // ---- texts

    public int feed(int letter) {
        if (letter < 0 || letter > 255) return BAD;
        return tape.add(letter) ? tape.size : FULL;
    }

    public int text() {
        if (written >= MOST_TEXTS) return FULL;
        int fault = reader.readText(texts[written]);
        tape.clear();
        if (fault != NONE) return -100 - fault;
        written++;
        return written - 1;
    }

    public int force(int text) {
        if (text < 0 || text >= written) return BAD;
        int was = rule;
        rule = text;
        return was;
    }

    // ---- days

    public int push(int one, int hour, int v) {
        if (!isOne(one) || !isHour(hour) || !isPush(v)) return BAD;
        for (int h = hour; h < HOURS; h++) giveMood(one, h, bounded(moodAt(one, h) + v));
        return moodAt(one, hour);
    }

    public int plan(int sheet, int one, int what) {
        if (!isSheet(sheet) || !isOne(one) || what < 0 || what > 2) return BAD;
        int refusal = planRefusal(sheets[sheet]);
        return refusal != 0 ? refusal : planTold(sheets[sheet], one, what);
    }

    public int wear(int sheet, int one) {
        if (!isSheet(sheet) || !isOne(one)) return BAD;
        Sheet told = sheets[sheet];
        int refusal = planRefusal(told);
        if (refusal != 0) return refusal;
        int costs = planTold(told, one, 0);
        // WORN may be a NAME of THE RULE: it must not grow before all is told.
        for (int i = 0; i < told.size; i++) {
            int coat = told.item(i);
            if (isCoat(coat)) drawer[coat].wornLonger();
        }
        return costs;
    }

    public int day(int one, int what) {
        if (!isOne(one)) return BAD;
        if (what >= DAY_FIRST && what < DAY_FIRST + HOURS) {
            tellDay(one);
            choices.cheapest();
            return choices.wornAt(what - DAY_FIRST);
        }
        switch (what) {
            case 0: return cover(one);
            case 1: return Integer.bitCount(cover(one));
            case 2: return bare(one);
            case 3: return changes(one);
            case 4: return cheapCost(one);
            default: return BAD;
        }
    }

    public int dress(int sheet, int one) {
        if (!isSheet(sheet) || !isOne(one)) return BAD;
        int costs = cheapCost(one);
        sheets[sheet].become(BYTES, HOURS);
        for (int hour = 0; hour < HOURS; hour++) sheets[sheet].put(hour, choices.wornAt(hour));
        return costs;
    }

    // ---- what would be best

    public int anew(int coat, int one, int what) {
        if (!isCoat(coat) || !isOne(one) || what < 0 || what > 1) return BAD;
        int best = 0;
        int most = -1;
        trial.become(drawer[coat]);
        for (int cut = 0; cut < CUTS; cut++) {
            trial.cut = cut;
            int hours = hoursOf(trial, one);
            if (hours > most) {
                most = hours;
                best = cut;
            }
        }
        return what == 0 ? best : most;
    }

    public int pushes(int one, int v, int what) {
        if (!isOne(one) || !isPush(v) || what < 0 || what > 1) return BAD;
        for (int hour = 0; hour < HOURS; hour++) tellHour(hour, bounded(moodAt(one, hour) + v));
        int best = 0;
        int least = choices.cheapest();
        // A push that begins an HOUR later differs in that one HOUR alone.
        for (int hour = 1; hour < HOURS; hour++) {
            tellHour(hour - 1, moodAt(one, hour - 1));
            int costs = choices.cheapest();
            if (costs < least) {
                least = costs;
                best = hour;
            }
        }
        return what == 0 ? best : least;
    }

    public int all(int what) {
        switch (what) {
            case 0: return useless();
            case 1: return alike(false);
            case 2: return alike(true);
            default: return BAD;
        }
    }

    public long mean(int one, int part) {
        if (!isOne(one) || part < 0 || part > 1) return NO;
        int together = 0;
        for (int hour = 0; hour < HOURS; hour++) together += moodAt(one, hour);
        return inLowestTerms(together, HOURS, part);
    }

    // ---- coats that were told

    public int tells(int sheet, int coat, int hour, int what) {
        if (!isSheet(sheet) || !isCoat(coat) || !isHour(hour) || what < 0 || what > 8) return BAD;
        Sheet told = sheets[sheet];
        if (told.sort == MISSING) return NOTHING;
        switch (what) {
            case 0: return firstOtherwise(told, texts[rule], drawer[coat], hour);
            case 1: return bitsBy(told, coat, hour, ITS_KIND, KINDS);
            case 2: return bitsBy(told, coat, hour, ITS_NUMBER, NUMBERS);
            case 3: return manyBy(told, coat, hour, ITS_CUT, CUTS);
            case 4: return leastBy(told, coat, hour, ITS_CUT, CUTS);
            case 5: return manyBy(told, coat, hour, ITS_WORN, WORN_TOLD);
            case 6: return leastBy(told, coat, hour, ITS_WORN, WORN_TOLD);
            case 7: return bitsBy(told, coat, hour, THE_TEXT, written);
            default: return bitsBy(told, coat, hour, THE_HOUR, HOURS);
        }
    }

    public int film(int sheet, int coat, int hour, int n) {
        if (!isSheet(sheet) || !isCoat(coat) || !isHour(hour) || n < 0 || n > MOST_ITEMS) return BAD;
        sheets[sheet].become(BYTES, n);
        int many = 0;
        for (int mood = 0; mood < n; mood++) {
            int fits = fitsAt(texts[rule], drawer[coat], mood, hour) ? 1 : 0;
            sheets[sheet].put(mood, fits);
            many += fits;
        }
        return many;
    }

    public int drawn(int seed, int one) {
        return isOne(one) ? drawnCost(seed) : BAD;
    }

    public long chance(int seed, int m, int one, int k, int part) {
        if (m < 1 || m > MOST_SEEDS || !isOne(one)) return NO;
        if (k < 0 || k > MOST_K || part < 0 || part > 1) return NO;
        int good = 0;
        for (int i = 0; i < m; i++) {
            if (drawnCost(seed + i) <= k) good++;
        }
        return inLowestTerms(good, m, part);
    }

    public int image() {
        System.arraycopy(moods, 0, kept.moods, 0, PEOPLE * HOURS);
        for (int i = 0; i < MOST_COATS; i++) kept.coats[i].become(drawer[i]);
        kept.owned = owned;
        kept.rule = rule;
        return owned;
    }

    public int back() {
        if (kept.owned == NONE) return STATE;
        System.arraycopy(kept.moods, 0, moods, 0, PEOPLE * HOURS);
        for (int i = 0; i < MOST_COATS; i++) drawer[i].become(kept.coats[i]);
        owned = kept.owned;
        rule = kept.rule;
        return owned;
    }

    public int count(int what) {
        switch (what) {
            case 0: return owned;
            case 1: return wornTogether();
            case 2: return written;
            case 3: return tape.size;
            case 4: return rule;
            default: return BAD;
        }
    }

    // ---- the host

    public int sheet(int sheet, int sort, int n) {
        if (!isSheet(sheet) || sort < MISSING || sort > INTS) return BAD;
        if (sort == MISSING) {
            sheets[sheet].become(MISSING, 0);
            return 1;
        }
        if (n > MOST_ITEMS) return BAD;
        if (n < 0) return BELOW;
        sheets[sheet].become(sort, n);
        return 1;
    }

    public int cell(int sheet, int i, int v) {
        if (!isSheet(sheet)) return BAD;
        if (sheets[sheet].sort == MISSING) return NOTHING;
        if (i < 0 || i >= sheets[sheet].size) return OUTSIDE;
        sheets[sheet].put(i, v);
        return 1;
    }

    public int copy(int sheet, int i, int other, int j, int n) {
        if (!isSheet(sheet) || !isSheet(other)) return BAD;
        Sheet from = sheets[sheet];
        Sheet to = sheets[other];
        if (from.sort == MISSING || to.sort == MISSING) return NOTHING;
        if (from.sort != to.sort) return UNLIKE;
        if (!from.hasRow(i, n) || !to.hasRow(j, n)) return OUTSIDE;
        System.arraycopy(from.items, i, to.items, j, n);
        return n;
    }

    public int coats(int sheet, int sort, int from, int n) {
        if (!isSheet(sheet) || sort < BYTES || sort > INTS || n < 0 || n > MOST_COATS) return BAD;
        Sheet told = sheets[sheet];
        if (told.sort == MISSING) return NOTHING;
        if (told.sort != sort) return UNLIKE;
        int came = 0;
        for (int i = 0; i < n; i++) {
            int at = from + 3 * i;
            if (!told.hasRow(at, 3)) return OUTSIDE;
            if (coat(told.item(at), told.item(at + 1), told.item(at + 2)) >= 0) came++;
        }
        return came;
    }

    public int taken(int coat, int k) {
        if (k < 0 || k >= KINDS) return BAD;
        if (!isCoat(coat)) return NOTHING;
        return drawer[coat].isUnder(k) ? drawer[coat].number : UNLIKE;
    }

    // ---- what may be asked

    private static boolean isOne(int one) {
        return one >= 0 && one < PEOPLE;
    }

    private static boolean isHour(int hour) {
        return hour >= 0 && hour < HOURS;
    }

    /** 100 times one, and the HOUR. */
    private static boolean isPlace(int of) {
        return of >= 0 && isOne(of / 100) && isHour(of % 100);
    }

    private boolean isCoat(int coat) {
        return coat >= 0 && coat < owned && coat < MOST_COATS;
    }

    private static boolean isSheet(int sheet) {
        return sheet >= 0 && sheet < SHEETS;
    }

    private static boolean isPush(int v) {
        return v >= -BOUND && v <= BOUND;
    }

    private static int mostOf(int trait) {
        if (trait == ITS_NUMBER) return NUMBERS - 1;
        return trait == ITS_CUT ? CUTS - 1 : MOST_WORN;
    }

    private static int bounded(int v) {
        return Math.max(0, Math.min(BOUND, v));
    }

    private static long inLowestTerms(int above, int below, int part) {
        int asked = part == 0 ? above : below;
        for (int d = below; d > 1; d--) {
            if (above % d == 0 && below % d == 0) return asked / d;
        }
        return asked;
    }

    // ---- moods, and what fits them

    private int moodAt(int one, int hour) {
        return isOne(one) && isHour(hour) ? moods[one * HOURS + hour] : CALM;
    }

    private void giveMood(int one, int hour, int mood) {
        if (isOne(one) && isHour(hour)) moods[one * HOURS + hour] = mood;
    }

    private static boolean fitsAt(Text by, Coat coat, int mood, int hour) {
        return coat.fits(mood, by.value(EASES, coat, mood, hour));
    }

    private int fineAt(int coat, int mood, int hour) {
        if (!isCoat(coat)) return BOUND;
        return drawer[coat].fine(texts[rule].value(FINES, drawer[coat], mood, hour));
    }

    private int costAt(int coat, int mood, int hour) {
        if (!isCoat(coat)) return 0;
        return drawer[coat].cost(texts[rule].value(COSTS, drawer[coat], mood, hour));
    }

    private int rightAt(int one, int hour) {
        int right = 0;
        for (int i = 0; i < owned; i++) {
            if (fitsAt(texts[rule], drawer[i], moodAt(one, hour), hour)) right |= 1 << i;
        }
        return right;
    }

    private int hoursOf(Coat coat, int one) {
        int hours = 0;
        for (int hour = 0; hour < HOURS; hour++) {
            if (fitsAt(texts[rule], coat, moodAt(one, hour), hour)) hours++;
        }
        return hours;
    }

    private int hoursOfEverybody(Coat coat) {
        int hours = 0;
        for (int one = 0; one < PEOPLE; one++) hours += hoursOf(coat, one);
        return hours;
    }

    private int wornTogether() {
        int hours = 0;
        for (int i = 0; i < owned; i++) hours += drawer[i].worn;
        return hours;
    }

    // ---- plans

    /** 0 if a SHEET tells a PLAN. */
    private int planRefusal(Sheet told) {
        if (told.sort == MISSING) return NOTHING;
        if (told.size > HOURS) return BAD;
        for (int i = 0; i < told.size; i++) {
            int coat = told.item(i);
            if (coat != NONE && !isCoat(coat)) return BAD;
        }
        return 0;
    }

    private int planTold(Sheet told, int one, int what) {
        int fines = 0;
        int costs = 0;
        int misfits = 0;
        int before = NONE;
        for (int hour = 0; hour < HOURS; hour++) {
            int coat = hour < told.size ? told.item(hour) : NONE;
            int mood = moodAt(one, hour);
            if (!isCoat(coat) || !fitsAt(texts[rule], drawer[coat], mood, hour)) {
                misfits++;
                fines += fineAt(coat, mood, hour);
            }
            if (coat != before) costs += costAt(coat, mood, hour);
            before = coat;
        }
        if (what == 2) return misfits;
        return what == 1 ? fines : fines + costs;
    }

    private void tellHour(int hour, int mood) {
        choices.tell(hour, 0, BOUND, 0);
        for (int i = 0; i < owned; i++) {
            boolean fits = fitsAt(texts[rule], drawer[i], mood, hour);
            choices.tell(hour, i + 1, fits ? 0 : fineAt(i, mood, hour), costAt(i, mood, hour));
        }
        choices.many = owned + 1;
    }

    private void tellDay(int one) {
        for (int hour = 0; hour < HOURS; hour++) tellHour(hour, moodAt(one, hour));
    }

    private int cheapCost(int one) {
        tellDay(one);
        return choices.cheapest();
    }

    private int drawnCost(int seed) {
        int z = seed;
        for (int hour = 0; hour < HOURS; hour++) {
            z = z * 1103515245 + 12345;
            tellHour(hour, (z >>> 9) % MOODS);
        }
        return choices.cheapest();
    }

    private int bare(int one) {
        int hours = 0;
        for (int hour = 0; hour < HOURS; hour++) {
            if (rightAt(one, hour) == 0) hours |= 1 << hour;
        }
        return hours;
    }

    private int cover(int one) {
        for (int hour = 0; hour < HOURS; hour++) rights[hour] = rightAt(one, hour);
        int best = (1 << owned) - 1;
        for (int set = best - 1; set >= 0; set--) {
            if (Integer.bitCount(set) <= Integer.bitCount(best) && covers(set)) best = set;
        }
        return best;
    }

    private boolean covers(int set) {
        for (int hour = 0; hour < HOURS; hour++) {
            if (rights[hour] != 0 && (rights[hour] & set) == 0) return false;
        }
        return true;
    }

    /** To wear what lasts longest, from each change on, never needs more changes. */
    private int changes(int one) {
        int many = 0;
        int lasting = (1 << owned) - 1;
        for (int hour = 0; hour < HOURS; hour++) {
            int right = rightAt(one, hour);
            if (right == 0) continue;
            lasting &= right;
            if (lasting == 0) {
                many++;
                lasting = right;
            }
        }
        return many;
    }

    // ---- of all

    private int useless() {
        int bits = 0;
        for (int i = 0; i < owned; i++) {
            if (hoursOfEverybody(drawer[i]) == 0) bits |= 1 << i;
        }
        return bits;
    }

    private int alike(boolean howFar) {
        int best = 0;
        int least = PEOPLE * HOURS * MOODS;
        for (int one = 0; one < PEOPLE; one++) {
            for (int other = one + 1; other < PEOPLE; other++) {
                int apart = apart(one, other);
                if (apart < least) {
                    least = apart;
                    best = 10 * one + other;
                }
            }
        }
        return howFar ? least : best;
    }

    private int apart(int one, int other) {
        int apart = 0;
        for (int hour = 0; hour < HOURS; hour++) apart += Math.abs(moodAt(one, hour) - moodAt(other, hour));
        return apart;
    }

    // ---- what a SHEET tells of a COAT

    private static int firstOtherwise(Sheet told, Text by, Coat coat, int hour) {
        for (int mood = 0; mood < told.size; mood++) {
            int fits = fitsAt(by, coat, mood, hour) ? 1 : 0;
            if (told.item(mood) != fits) return mood;
        }
        return NONE;
    }

    private boolean wouldBeSo(Sheet told, int coat, int hour, int aspect, int v) {
        trial.become(drawer[coat]);
        trial.giveTrait(aspect, v);
        Text by = aspect == THE_TEXT && v >= 0 && v < MOST_TEXTS ? texts[v] : texts[rule];
        return firstOtherwise(told, by, trial, aspect == THE_HOUR ? v : hour) == NONE;
    }

    private int bitsBy(Sheet told, int coat, int hour, int aspect, int below) {
        int bits = 0;
        for (int v = 0; v < below; v++) {
            if (wouldBeSo(told, coat, hour, aspect, v)) bits |= 1 << v;
        }
        return bits;
    }

    private int manyBy(Sheet told, int coat, int hour, int aspect, int below) {
        int many = 0;
        for (int v = 0; v < below; v++) {
            if (wouldBeSo(told, coat, hour, aspect, v)) many++;
        }
        return many;
    }

    private int leastBy(Sheet told, int coat, int hour, int aspect, int below) {
        for (int v = 0; v < below; v++) {
            if (wouldBeSo(told, coat, hour, aspect, v)) return v;
        }
        return NONE;
    }

    private static final class Coat {
        int kind;
        int number;
        int cut;
        int worn;

        void comeAs(int itsKind, int itsNumber, int itsCut) {
            kind = itsKind;
            number = itsNumber;
            cut = itsCut;
            worn = 0;
        }

        void become(Coat other) {
            comeAs(other.kind, other.number, other.cut);
            worn = other.worn;
        }

        int trait(int what) {
            switch (what) {
                case ITS_NUMBER: return number;
                case ITS_CUT: return cut;
                case ITS_WORN: return worn;
                default: return kind;
            }
        }

        void giveTrait(int what, int v) {
            if (what == ITS_NUMBER) number = v;
            if (what == ITS_CUT) cut = v;
            if (what == ITS_WORN) worn = v;
            if (what == ITS_KIND) kind = v;
        }

        void wornLonger() {
            worn = Math.min(MOST_WORN, worn + 1);
        }

        boolean isUnder(int asked) {
            int k = kind;
            for (int step = 0; step < KINDS && k >= 0 && k < KINDS; step++) {
                if (k == asked) return true;
                k = KIND_ABOVE[k];
            }
            return false;
        }

        int off(int mood) {
            return cut > mood ? cut - mood : mood - cut;
        }

        boolean fits(int mood, int ease) {
            int off = off(mood);
            switch (kind) {
                case TIGHT: return 2 * off <= ease;
                case LOOSE: return off <= 10 + ease;
                case GRIEF: return 2 * off <= ease && mood < 50;
                case IRONY: return off > 10 + ease;
                case FALSE: return off <= ease || mood % 10 == number;
                default: return off <= ease;
            }
        }

        int fine(int told) {
            switch (kind) {
                case TIGHT: return bounded(told + 2);
                case LOOSE: return told / 2;
                case GRIEF: return bounded(2 * (told + 2));
                case IRONY: return number;
                case FALSE: return BOUND;
                default: return told;
            }
        }

        int cost(int told) {
            switch (kind) {
                case TIGHT:
                case GRIEF: return bounded(told + number);
                case IRONY: return bounded(told + 3);
                case FALSE: return 0;
                default: return told;
            }
        }
    }

    /** A TEXT as a row of steps: a NUMBER is itself, all else is below 0; operands stand ahead of what joins them. */
    private static final class Text {
        private final int[] steps = new int[TAPE_SIZE];
        private final int[] ends = new int[PARTS];
        private final int[] stack = new int[STACK_SIZE];
        private int size;
        private int top;

        void becomeFixed(int eases, int fines, int costs) {
            clear();
            addNumber(eases);
            endPart(EASES);
            addNumber(fines);
            endPart(FINES);
            addNumber(costs);
            endPart(COSTS);
        }

        void clear() {
            size = 0;
        }

        void addNumber(int number) {
            if (size < TAPE_SIZE) {
                steps[size] = number;
                size++;
            }
        }

        void addToken(int token) {
            addNumber(-token);
        }

        void endPart(int part) {
            if (part >= 0 && part < PARTS) ends[part] = size;
        }

        /** 0 .. 99. */
        int value(int part, Coat coat, int mood, int hour) {
            if (part < 0 || part >= PARTS) return 0;
            top = 0;
            int from = part == 0 ? 0 : ends[part - 1];
            for (int i = from; i < ends[part] && i < TAPE_SIZE; i++) {
                if (steps[i] >= 0) lay(steps[i]);
                else if (steps[i] <= -CUT) lay(named(-steps[i], coat, mood, hour));
                else join(-steps[i]);
            }
            return bounded(lift());
        }

        private void lay(int v) {
            if (top >= 0 && top < STACK_SIZE) {
                stack[top] = v;
                top++;
            }
        }

        private int lift() {
            if (top <= 0 || top > STACK_SIZE) return 0;
            top--;
            return stack[top];
        }

        private static int named(int name, Coat coat, int mood, int hour) {
            switch (name) {
                case CUT: return coat.cut;
                case MOOD: return mood;
                case ITS_DIGIT: return coat.number;
                case HOUR: return hour;
                case WORN: return coat.worn;
                default: return coat.off(mood);
            }
        }

        private void join(int token) {
            int right = lift();
            if (token == NOT) lay(right == 0 ? 1 : 0);
            else if (token == NEGATE) lay(-right);
            else lay(joined(token, lift(), right));
        }

        private static int joined(int token, int left, int right) {
            switch (token) {
                case OR: return left != 0 || right != 0 ? 1 : 0;
                case AND: return left != 0 && right != 0 ? 1 : 0;
                case '<': return left < right ? 1 : 0;
                case '=': return left == right ? 1 : 0;
                case '+': return left + right;
                case '-': return left - right;
                default: return left * right;
            }
        }
    }

    /** THE TAPE, and the TOKENS that stand on it: the last one is END, at the text's size. */
    private static final class Tape {
        private final int[] bytes = new int[TAPE_SIZE];
        private final int[] tokens = new int[TAPE_SIZE + 1];
        private final int[] places = new int[TAPE_SIZE + 1];
        private final int[] numbers = new int[TAPE_SIZE + 1];
        int size;
        private int next;
        private int many;

        boolean add(int letter) {
            if (size >= TAPE_SIZE) return false;
            bytes[size] = letter;
            size++;
            return true;
        }

        void clear() {
            size = 0;
        }

        int token(int i) {
            return i >= 0 && i < many && i <= TAPE_SIZE ? tokens[i] : END;
        }

        int place(int i) {
            return i >= 0 && i < many && i <= TAPE_SIZE ? places[i] : size;
        }

        int number(int i) {
            return i >= 0 && i < many && i <= TAPE_SIZE ? numbers[i] : 0;
        }

        /** A byte that begins no TOKEN becomes one that stands nowhere: the grammar finds the FAULT in its turn. */
        void scan() {
            next = 0;
            many = 0;
            for (int i = 0; i <= TAPE_SIZE; i++) {
                for (int j = 0; j < TAPE_SIZE && isBlank(byteAt(next)); j++) next++;
                places[i] = next;
                numbers[i] = 0;
                tokens[i] = scanOne(i);
                many++;
                if (tokens[i] == END) return;
            }
        }

        private int scanOne(int i) {
            int first = byteAt(next);
            if (first < 0) return END;
            if (isLetter(first)) return scanWord(next);
            if (isDigit(first)) return scanNumber(i);
            next++;
            return isSign(first) ? first : FAULTY;
        }

        private int scanNumber(int i) {
            int digits = 0;
            for (int j = 0; j < TAPE_SIZE && isDigit(byteAt(next)); j++) {
                if (digits < MOST_DIGITS) numbers[i] = 10 * numbers[i] + byteAt(next) - '0';
                digits++;
                next++;
            }
            return digits <= MOST_DIGITS ? NUMBER : FAULTY;
        }

        private int scanWord(int from) {
            for (int j = 0; j < TAPE_SIZE && isLetter(byteAt(next)); j++) next++;
            if (isWord(from, "eases")) return KEY_EASES;
            if (isWord(from, "fines")) return KEY_FINES;
            if (isWord(from, "costs")) return KEY_COSTS;
            if (isWord(from, "or")) return OR;
            if (isWord(from, "and")) return AND;
            if (isWord(from, "not")) return NOT;
            if (isWord(from, "cut")) return CUT;
            if (isWord(from, "mood")) return MOOD;
            if (isWord(from, "number")) return ITS_DIGIT;
            if (isWord(from, "hour")) return HOUR;
            if (isWord(from, "worn")) return WORN;
            return isWord(from, "off") ? OFF : FAULTY;
        }

        private boolean isWord(int from, String word) {
            if (word.length() != next - from) return false;
            for (int i = 0; i < word.length(); i++) {
                if (byteAt(from + i) != word.charAt(i)) return false;
            }
            return true;
        }

        /** -1 behind the end, which is no byte. */
        private int byteAt(int at) {
            return at >= 0 && at < size && at < TAPE_SIZE ? bytes[at] : -1;
        }

        private static boolean isBlank(int b) {
            return b == 32 || b == 10;
        }

        private static boolean isLetter(int b) {
            return b >= 'a' && b <= 'z';
        }

        private static boolean isDigit(int b) {
            return b >= '0' && b <= '9';
        }

        private static boolean isSign(int b) {
            switch (b) {
                case '(':
                case ')':
                case ';':
                case '+':
                case '-':
                case '*':
                case '<':
                case '=': return true;
                default: return false;
            }
        }
    }

    /** Reads THE TAPE by the grammar: what answers false has stopped ahead of the TOKEN that can't stand there. */
    private static final class Reader {
        private final Tape tape;
        private int at;

        Reader(Tape itsTape) {
            tape = itsTape;
        }

        /** NONE, or the place of the FAULT. */
        int readText(Text into) {
            into.clear();
            tape.scan();
            at = 0;
            for (int part = EASES; part < PARTS; part++) {
                if (!stepOver(KEY_EASES + part) || !level(into, ORS, 0) || !stepOver(';')) return tape.place(at);
                into.endPart(part);
            }
            return tape.token(at) == END ? NONE : tape.place(at);
        }

        private boolean stepOver(int token) {
            if (tape.token(at) != token) return false;
            at++;
            return true;
        }

        /** Each level is made of the next one; open tells how many of ( , not and - are. */
        private boolean level(Text into, int which, int open) {
            if (which >= ONES) return one(into, open);
            if (which == NOTS && tape.token(at) == NOT) return prefixed(into, NOT, NOTS, open);
            if (!level(into, which + 1, open)) return false;
            int most = which == NOTS ? 1 : TAPE_SIZE;
            for (int i = 0; i < most && joins(which, tape.token(at)); i++) {
                int token = tape.token(at);
                at++;
                if (!level(into, which + 1, open)) return false;
                into.addToken(token);
            }
            return true;
        }

        private static boolean joins(int which, int token) {
            switch (which) {
                case ORS: return token == OR;
                case ANDS: return token == AND;
                case NOTS: return token == '<' || token == '=';
                case SUMS: return token == '+' || token == '-';
                case TERMS: return token == '*';
                default: return false;
            }
        }

        private boolean one(Text into, int open) {
            int token = tape.token(at);
            if (token == '-') return prefixed(into, NEGATE, ONES, open);
            if (token == '(') return bracketed(into, open);
            if (token == NUMBER) into.addNumber(tape.number(at));
            else if (token >= CUT) into.addToken(token);
            else return false;
            at++;
            return true;
        }

        private boolean prefixed(Text into, int token, int which, int open) {
            if (open >= MOST_OPEN) return false;
            at++;
            if (!level(into, which, open + 1)) return false;
            into.addToken(token);
            return true;
        }

        private boolean bracketed(Text into, int open) {
            if (open >= MOST_OPEN) return false;
            at++;
            return level(into, ORS, open + 1) && stepOver(')');
        }
    }

    /** What each choice is fined and costs HOUR by HOUR: choice 0 is none, the next ones are the COATS. */
    private static final class Day {
        private final int[] fines = new int[HOURS * CHOICES];
        private final int[] costs = new int[HOURS * CHOICES];
        /** The least from an HOUR on, a choice being on already and kept on. */
        private final int[] keeping = new int[HOURS * CHOICES];
        /** The least from an HOUR on, a choice being on in the HOUR ahead. */
        private final int[] least = new int[HOURS * CHOICES];
        int many = 1;

        void tell(int hour, int choice, int fine, int cost) {
            if (!isHour(hour) || choice < 0 || choice >= CHOICES) return;
            fines[hour * CHOICES + choice] = fine;
            costs[hour * CHOICES + choice] = cost;
        }

        int cheapest() {
            for (int hour = HOURS - 1; hour >= 0; hour--) {
                int changing = TOO_DEAR;
                for (int c = 0; c < many && c < CHOICES; c++) {
                    int at = hour * CHOICES + c;
                    keeping[at] = fines[at] + (hour == HOURS - 1 ? 0 : least[at + CHOICES]);
                    changing = Math.min(changing, keeping[at] + costs[at]);
                }
                for (int c = 0; c < many && c < CHOICES; c++) {
                    int at = hour * CHOICES + c;
                    least[at] = Math.min(keeping[at], changing);
                }
            }
            return least[0];
        }

        /** The COAT that the first of the cheapest plans tells, once cheapest() has gone through it. */
        int wornAt(int hour) {
            int choice = 0;
            for (int h = 0; h <= hour && h < HOURS; h++) choice = firstBehind(h, choice);
            return choice == 0 ? NONE : choice - 1;
        }

        private int firstBehind(int hour, int before) {
            for (int c = 0; c < many && c < CHOICES; c++) {
                int at = hour * CHOICES + c;
                int all = keeping[at] + (c == before ? 0 : costs[at]);
                if (all == least[hour * CHOICES + before]) return c;
            }
            return 0;
        }
    }

    /** A row of numbers, or MISSING. */
    private static final class Sheet {
        final int[] items = new int[MOST_ITEMS];
        int sort = MISSING;
        int size = 0;

        void become(int itsSort, int itsSize) {
            sort = itsSort;
            size = Math.max(0, Math.min(MOST_ITEMS, itsSize));
            for (int i = 0; i < MOST_ITEMS; i++) items[i] = 0;
        }

        void put(int i, int v) {
            if (!hasRow(i, 1)) return;
            if (sort == BYTES) items[i] = (byte) v;
            else if (sort == SHORTS) items[i] = (short) v;
            else items[i] = v;
        }

        int item(int i) {
            return hasRow(i, 1) ? items[i] : 0;
        }

        /** n is taken from the size, as i and n together may be beyond an int. */
        boolean hasRow(int i, int n) {
            return i >= 0 && n >= 0 && n <= size && i <= size - n;
        }
    }

    /** What AN IMAGE keeps; owned is NONE while there is none. */
    private static final class Image {
        final int[] moods = new int[PEOPLE * HOURS];
        final Coat[] coats = new Coat[MOST_COATS];
        int owned = NONE;
        int rule = 0;

        Image() {
            for (int i = 0; i < MOST_COATS; i++) coats[i] = new Coat();
        }
    }
}
