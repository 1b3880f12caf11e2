import java.util.Random;

/** Texts to be fed: most of them as the grammar has them, some with a fault. */
final class Texts {
    private Texts() {
    }

    static String some(Random random) {
        StringBuilder all = new StringBuilder();
        all.append("eases ").append(e(random)).append(";fines ").append(e(random)).append("; costs ");
        all.append(e(random)).append(';');
        if (random.nextInt(3) == 0) spoil(all, random);
        return all.toString();
    }

    private static String e(Random random) {
        if (random.nextInt(4) == 0) return Integer.toString(random.nextInt(30));
        return or(random, 2 + random.nextInt(4));
    }

    private static void spoil(StringBuilder all, Random random) {
        String[] others = {"(", ")", "not ", "-", "+", "12345", "A", "or ", "<", "cut", ";", " ", "\n", "foo", "=", "9"};
        int at = random.nextInt(all.length() + 1);
        if (random.nextInt(3) == 0) all.setLength(at);
        else if (random.nextBoolean() && at < all.length()) all.deleteCharAt(at);
        else all.insert(at, others[random.nextInt(others.length)]);
    }

    private static String or(Random random, int deep) {
        String left = and(random, deep);
        return random.nextInt(8) == 0 ? left + " or " + and(random, deep - 1) : left;
    }

    private static String and(Random random, int deep) {
        String left = not(random, deep);
        return random.nextInt(8) == 0 ? left + " and " + not(random, deep - 1) : left;
    }

    private static String not(Random random, int deep) {
        int at = random.nextInt(8);
        if (at == 0 && deep > 0) return "not " + not(random, deep - 1);
        String left = sum(random, deep);
        if (at == 1) return left + "<" + sum(random, deep - 1);
        return at == 2 ? left + " = " + sum(random, deep - 1) : left;
    }

    private static String sum(Random random, int deep) {
        String all = term(random, deep);
        for (int i = random.nextInt(5); i > 2; i--) all += (random.nextBoolean() ? "+" : "-") + term(random, deep - 1);
        return all;
    }

    private static String term(Random random, int deep) {
        String all = one(random, deep);
        if (random.nextInt(4) == 0) all += "*" + one(random, deep - 1);
        return all;
    }

    private static String one(Random random, int deep) {
        String[] names = {"cut", "mood", "number", "hour", "worn", "off"};
        int at = deep > 0 ? random.nextInt(10) : 2 + random.nextInt(8);
        if (at == 0) return "(" + or(random, deep - 1) + ")";
        if (at == 1) return "-" + one(random, deep - 1);
        if (at < 6) return names[random.nextInt(names.length)];
        int[] below = {10, 100, 1000, 10000};
        return Integer.toString(random.nextInt(below[random.nextInt(8) == 0 ? 3 : random.nextInt(2)]));
    }
}
