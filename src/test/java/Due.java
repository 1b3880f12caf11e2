/** Counts the calls whose answer is not the one that is due, and prints each of them. */
final class Due {
    private final String name;
    private int asked = 0;
    private int wrong = 0;

    Due(String name) {
        this.name = name;
    }

    void is(String call, long got, long want) {
        asked++;
        if (got == want) return;
        wrong++;
        System.out.println(name + ": " + call + " answered " + got + ", due is " + want);
    }

    /** Ends the test: with exit code 1 if an answer was wrong, or if none was asked for. */
    void end() {
        System.out.println(name + ": " + asked + " answers, " + wrong + " not as due");
        if (wrong != 0 || asked == 0) System.exit(1);
    }

    /** Feeds a text, byte by byte. */
    static void feed(CoatsFitTheMood x, String text) {
        for (int i = 0; i < text.length(); i++) x.feed(text.charAt(i));
    }

    /** Feeds a text, and answers what text() does. */
    static int text(CoatsFitTheMood x, String text) {
        feed(x, text);
        return x.text();
    }

    /** Makes a text THE RULE. */
    static void rule(CoatsFitTheMood x, String text) {
        int number = text(x, text);
        if (number < 0) throw new IllegalStateException("no text: " + text + " " + number);
        x.force(number);
    }

    /** A SHEET becomes a row of these numbers. */
    static void row(CoatsFitTheMood x, int sheet, int sort, int... items) {
        x.sheet(sheet, sort, items.length);
        for (int i = 0; i < items.length; i++) x.cell(sheet, i, items[i]);
    }

    /** All moods of one. */
    static void moods(CoatsFitTheMood x, int one, int... moods) {
        for (int hour = 0; hour < 24; hour++) x.set(0, 100 * one + hour, moods[hour % moods.length]);
    }

    /** One number for all that may be read of an object without changing it: to see that a refusal changes nothing. */
    static long state(CoatsFitTheMood x) {
        long all = 17;
        for (int what = 0; what <= 4; what++) all = 31 * all + x.count(what);
        for (int one = 0; one < 3; one++) {
            for (int hour = 0; hour < 24; hour++) all = 31 * all + x.told(100 * one + hour, 0);
        }
        for (int coat = 0; coat < x.count(0); coat++) {
            for (int what = 1; what <= 4; what++) all = 31 * all + x.told(coat, what);
        }
        return all;
    }
}
