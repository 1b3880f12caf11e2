/** Terms 1 of the TEXTS, and promises 6 to 8: THE TAPE, TOKENS, the grammar, FAULTS, what an E is, THE RULE. */
final class EdgesOfTexts {
    private static final int BAD = -2, FULL = -4;
    private static final int MOST = Integer.MAX_VALUE, LEAST = Integer.MIN_VALUE;
    private static final String SHORT = "eases 1;fines 2;costs 4;";
    private final Edges e;

    EdgesOfTexts(Edges e) {
        this.e = e;
    }

    void all() {
        tape();
        tokens();
        bytes();
        blanks();
        parts();
        ors();
        nots();
        sums();
        ones();
        words();
        ints();
        truths();
        faultsOfTheGrammar();
        faultsOfTokens();
        openOnes();
        openTill();
        sixTexts();
        names();
        boundsOfTexts();
        theFirstRule();
        feed();
        text();
        force();
    }

    /** The FAULT of a whole text; -1 is none. */
    private void fault(String text, int place) {
        CoatsFitTheMood x = new CoatsFitTheMood();
        int due = place < 0 ? 1 : -100 - place;
        e.is("[" + text + "]", Due.text(x, text), due);
        e.is("TEXTS behind [" + text + "]", x.count(2), place < 0 ? 2 : 1);
    }

    /** The same of an E, from its first byte on; it stands as the second of the three. */
    private void faultOf(String word, int place) {
        fault("eases 1;fines " + word + ";costs 4;", place < 0 ? -1 : 14 + place);
    }

    /** What an E is (0 .. 99, else the bound) of a COAT of NUMBER 7, CUT 40, WORN 21, at MOOD 62, HOUR 13. */
    private void value(String word, int due) {
        CoatsFitTheMood x = new CoatsFitTheMood();
        x.coat(0, 7, 40);
        x.set(3, 0, 21);
        e.is("a TEXT of [" + word + "]", Due.text(x, "eases 1;fines " + word + ";costs 4;"), 1);
        x.force(1);
        e.is("[" + word + "]", x.asks(0, 6213, 1), due);
    }

    private static String times(String word, int n) {
        StringBuilder all = new StringBuilder();
        for (int i = 0; i < n; i++) all.append(word);
        return all.toString();
    }

    private void tape() {
        e.says("T1", "A TEXT is read from THE TAPE (160 bytes at most).");
        CoatsFitTheMood x = new CoatsFitTheMood();
        String longest = times(" ", 160 - SHORT.length()) + SHORT;
        for (int i = 1; i <= 159; i++) e.is("byte " + i, x.feed(longest.charAt(i - 1)), i);
        e.is("byte 160", x.feed(';'), 160);
        e.is("byte 161", x.feed(';'), FULL);
        e.is("a TEXT of 160", x.text(), 1);
        fault(times(";", 160), 0);
        fault(times(" ", 159) + ";", 159);
        fault(times(" ", 136) + SHORT.substring(0, 23) + " ", 160);
        fault("eases " + times("1+", 68) + "1;fines 2;costs 4;", -1);
        fault("eases " + times("1+", 68) + "1;fines 2;costs 40", 160);
    }

    private void tokens() {
        e.says("T1", "TOKENS, each as long as can be: WORDS (a .. z),");
        faultOf("notcut", 0);
        faultOf("not cut", -1);
        faultOf("cutor", 0);
        faultOf("cut or1", -1);
        faultOf("1or2and 3", -1);
        faultOf("az", 0);
        faultOf("cutz", 0);
        faultOf("cuta", 0);
        faultOf("zcut", 0);
        faultOf("cut`", 3);
        faultOf("cut{", 3);
        faultOf("cuT", 0);
        faultOf("cutZ", 3);
        faultOf("CUT", 0);
        faultOf("c ut", 0);
        faultOf("cu t", 0);
        faultOf(times("cut", 40), 0);
        fault("easesfines", 0);
        fault("eases1;fines2;costs4;", -1);
        e.says("T1", "NUMBERS (as many digits as stand there, 4 at most),");
        faultOf("9999", -1);
        faultOf("0", -1);
        faultOf("0000", -1);
        faultOf("00000", 0);
        faultOf("10000", 0);
        faultOf("1 2345", 2);
        faultOf("12 34", 3);
        faultOf("1/", 1);
        faultOf("1:", 1);
        value("0099", 99);
        value("1000 - 999", 1);
        value("9999 - 9998", 1);
    }

    /** Behind a "1": a blank, a digit more, or one of the SIGNS that may stand there. */
    private static boolean mayStandBehindOne(int b) {
        return b == ' ' || b == '\n' || b >= '0' && b <= '9' || ";+-*<=".indexOf(b) >= 0;
    }

    private void bytes() {
        e.says("T1", "SIGNS ( ) ; + - * < = ;");
        faultOf("(1)", -1);
        faultOf("1+2-3*4", -1);
        faultOf("1<2", -1);
        faultOf("1=2", -1);
        faultOf("1>2", 1);
        faultOf("1<=2", 2);
        faultOf("1==2", 2);
        // Each of all bytes: either it can't stand there, or the text ends too early behind it.
        for (int b = 0; b < 256; b++) fault("eases 1" + (char) b, mayStandBehindOne(b) ? 8 : 7);
    }

    private void blanks() {
        e.says("T1", "blanks (32, 10) may stand between.");
        fault(" \n eases \n 1 \n ; \n fines 2;costs 4; \n ", -1);
        fault("eases\n1\n;\nfines\n2\n;\ncosts\n4\n;\n", -1);
        fault("   ", 3);
        fault("\n", 1);
        int[] none = {0, 9, 11, 12, 13, 31, 33, 127, 128, 133, 160, 255};
        for (int b : none) {
            faultOf("1" + (char) b + "+2", 1);
            fault((char) b + SHORT, 0);
            fault(SHORT + (char) b, 24);
        }
        faultOf("1 +\n2", -1);
        faultOf("-\n1", -1);
        faultOf("( 1 )", -1);
    }

    private void parts() {
        e.says("T1", "TEXT: eases E ; fines E ; costs E ;");
        fault(SHORT, -1);
        fault("", 0);
        fault("eases", 5);
        fault("eases 1", 7);
        fault("eases 1;", 8);
        fault("eases 1;fines", 13);
        fault("eases 1;fines 2", 15);
        fault("eases 1;fines 2;", 16);
        fault("eases 1;fines 2;costs", 21);
        fault("eases 1;fines 2;costs 4", 23);
        fault("eases 1;fines 2;costs 4;;", 24);
        fault("eases 1;fines 2;costs 4; eases 1;", 25);
        fault("fines 2;", 0);
        fault("costs 4;", 0);
        fault("eases 1;costs 4;", 8);
        fault("eases 1;fines 2;fines 2;", 16);
        fault("eases 1 fines 2;", 8);
        fault("eases ;", 6);
        fault("eases 1;fines ;", 14);
        fault("eases 1;fines 2;costs ;", 22);
        fault("eases eases 1;", 6);
        fault("cut 1;", 0);
        fault("1;", 0);
    }

    private void ors() {
        e.says("T1", "E: AND { or AND }. AND: NOT { and NOT }.");
        faultOf("1 or 0 or 1 and 0 and 1", -1);
        faultOf("1 or", 4);
        faultOf("1 and", 5);
        faultOf("or 1", 0);
        faultOf("and 1", 0);
        faultOf("1 or and 1", 5);
        faultOf("1 and or 1", 6);
        faultOf("1 or or 1", 5);
        value("1 or 0 and 0", 1);
        value("0 and 0 or 1", 1);
        value("(1 or 0) and 0", 0);
        value("0 and (0 or 1)", 0);
        value("0 or 0 or 5", 1);
        value("1 and 2 and 0", 0);
    }

    private void nots() {
        e.says("T1", "NOT: not NOT, or SUM, perhaps < or = and a SUM.");
        faultOf("not not 1", -1);
        faultOf("not 1 < 2", -1);
        faultOf("1 < 2 < 3", 6);
        faultOf("1 = 2 = 3", 6);
        faultOf("1 < 2 = 3", 6);
        faultOf("1 = 2 < 3", 6);
        faultOf("1 <", 3);
        faultOf("< 1", 0);
        faultOf("= 1", 0);
        faultOf("1 < not 2", 4);
        faultOf("1 = not 2", 4);
        faultOf("1 + not 2", 4);
        faultOf("1 * not 2", 4);
        faultOf("- not 2", 2);
        faultOf("1 not 2", 2);
        faultOf("1 and not 2 or not 3", -1);
        faultOf("not", 3);
        value("not 1 < 0", 1);
        value("not 2 = 1", 1);
        value("(not 1) < 1", 1);
        value("not 1 and 0", 0);
        value("not 1 or 1", 1);
        value("not not 7", 1);
    }

    private void sums() {
        e.says("T1", "SUM: TERM { + or - TERM }. TERM: ONE { * ONE }.");
        faultOf("1 + 2 - 3 + 4", -1);
        faultOf("1 * 2 * 3", -1);
        faultOf("1 +", 3);
        faultOf("1 -", 3);
        faultOf("1 *", 3);
        faultOf("+ 1", 0);
        faultOf("* 1", 0);
        faultOf("1 + + 1", 4);
        faultOf("1 * * 1", 4);
        faultOf("1 * + 1", 4);
        value("2 + 3 * 4", 14);
        value("3 * 4 + 2", 14);
        value("30 - 12 - 8", 10);
        value("30 - 12 + 8", 26);
        value("30 - 4 * 5 - 3", 7);
        value("2 * 3 * 4", 24);
        value("1 + 1 < 3", 1);
        value("3 < 1 + 1", 0);
        value("2 * 3 = 3 + 3", 1);
    }

    private void ones() {
        e.says("T1", "ONE: a NUMBER, a NAME, - ONE, ( E ).");
        faultOf("1", -1);
        faultOf("cut", -1);
        faultOf("-1", -1);
        faultOf("- - 1", -1);
        faultOf("-cut", -1);
        faultOf("-(1)", -1);
        faultOf("(1 or 2)", -1);
        faultOf("(not 1)", -1);
        faultOf("((1))", -1);
        faultOf("1 - - 1", -1);
        faultOf("1 * - 1", -1);
        faultOf("", 0);
        faultOf("()", 1);
        faultOf("(1", 2);
        faultOf("1)", 1);
        faultOf(")", 0);
        faultOf("(1))", 3);
        faultOf("(1;)", 2);
        faultOf("1 2", 2);
        faultOf("1 cut", 2);
        faultOf("cut 1", 4);
        faultOf("1 (2)", 2);
        faultOf("(1) (2)", 4);
        faultOf("-", 1);
        faultOf("-+1", 1);
        value("50 + -8", 42);
        value("60 - -2 * -3", 54);
        value("- -5", 5);
        value("-(2 - 9)", 7);
        value("(2 + 3) * 4", 20);
    }

    private void words() {
        e.says("T1", "NAMES are cut mood number hour worn off;");
        String[] names = {"cut", "mood", "number", "hour", "worn", "off"};
        for (String name : names) {
            faultOf(name, -1);
            faultOf(name.substring(1), 0);
            faultOf(name.substring(0, name.length() - 1), 0);
            faultOf(name + "s", 0);
            faultOf("a" + name, 0);
            faultOf("z" + name.substring(1), 0);
            faultOf(name.substring(0, name.length() - 1) + "z", 0);
            fault(name + " 1;", 0);
        }
        faultOf("kind", 0);
        e.says("T1", "eases, fines, costs, or, and, not are KEYS.");
        String[] keys = {"eases", "fines", "costs", "or", "and"};
        for (String key : keys) {
            faultOf(key, 0);
            faultOf("1 + " + key, 4);
            faultOf("(" + key + ")", 1);
        }
        faultOf("1 + not", 4);
        faultOf("not", 3);
        faultOf("1 an 2", 2);
        faultOf("1 ors 2", 2);
        faultOf("nots 1", 0);
        faultOf("zot 1", 0);
        faultOf("noz 1", 0);
        faultOf("1 zr 2", 2);
        faultOf("1 oz 2", 2);
        faultOf("1 znd 2", 2);
        faultOf("1 anz 2", 2);
        fault("zases 1;", 0);
        fault("easez 1;", 0);
        fault("eases 1;zines 2;", 8);
        fault("eases 1;finez 2;", 8);
        fault("eases 1;fines 2;zosts 4;", 16);
        fault("eases 1;fines 2;costz 4;", 16);
        fault("ease 1;", 0);
        fault("easess 1;", 0);
        fault("eases 1;fine 2;", 8);
        fault("eases 1;fines 2;cost 4;", 16);
    }

    private void ints() {
        e.says("T1", "An E is an int (32 bits, wrapping):");
        // 8192 * 8 is 2 to the power of 16; its square is 0, half its square is the least int.
        value("8192*8*(8192*8)", 0);
        value("8192*8*(8192*8) + 5", 5);
        value("8192*8*(8192*4) < 0", 1);
        value("8192*8*(8192*4) - 1 < 0", 0);
        value("8192*8*(8192*4) - 1", 99);
        value("8192*8*(8192*4) - 1 + 1", 0);
        value("-(8192*8*(8192*4))", 0);
        value("-(8192*8*(8192*4)) = 8192*8*(8192*4)", 1);
        // 21 times 99980001 is 2099580021, an int; 22 times is beyond; 43 times has gone round once, to 4172747.
        value("9999*9999*21 < 0", 0);
        value("9999*9999*22 < 0", 1);
        value("9999*9999*43 = 417*9999 + 3164", 1);
        value("0 - 9999*9999*22", 99);
    }

    private void truths() {
        e.says("T1", "of or, and, not, <, = 1 or 0 (what is not 0 is true).");
        value("5 or 7", 1);
        value("0 or 7", 1);
        value("7 or 0", 1);
        value("0 or 0", 0);
        value("5 and 7", 1);
        value("5 and 0", 0);
        value("0 and 5", 0);
        value("not 5", 0);
        value("not 0", 1);
        value("1 < 2", 1);
        value("2 < 2", 0);
        value("2 < 1", 0);
        value("-2 < -1", 1);
        value("2 = 2", 1);
        value("2 = 3", 0);
        value("-1 and -2", 1);
        value("0 or -1", 1);
        value("not -1", 0);
        value("2 and 4", 1);
        value("50 + (1 or 1) + (2 and 2) + (not 0) + (1 < 2) + (3 = 3)", 55);
        value("50 + (0 or 0) + (0 and 2) + (2 and 0) + (not 2) + (2 < 2) + (3 < 2) + (2 = 3)", 50);
        value("(3 < 4) * 9", 9);
    }

    private void faultsOfTheGrammar() {
        e.says("T1", "FAULT: the place of the first byte of the first TOKEN that can't stand there (the text's size, if it ends too early),");
        fault("eases 1;fines 2;costs 4;  moods", 26);
        fault("eases 1  costs", 9);
        fault("eases 1 ) 12345", 8);
        fault("eases 12345 )", 6);
        fault("eases 1 or or ?", 11);
        fault("eases 1;  ", 10);
        fault("eases 1;fines 2;costs 4 \n ", 26);
        fault("eases (", 7);
        fault("eases (((((1", 12);
        fault("eases not", 9);
        fault("eases -", 7);
        fault("eases 1 < ", 10);
    }

    private void faultsOfTokens() {
        e.says("T1", "also of a byte that begins none,");
        fault("?", 0);
        fault("  ?", 2);
        fault("eases ?", 6);
        fault("eases 1?", 7);
        fault("eases 1;fines 2;costs 4;?", 24);
        fault("eases 1;fines 2;costs 4; " + (char) 200, 25);
        fault("" + (char) 0, 0);
        e.says("T1", "a WORD that is neither KEY nor NAME,");
        fault("ease", 0);
        fault("eases 1 foo", 8);
        fault("eases foo;", 6);
        fault("eases 1;fines 2;costs 4;x", 24);
        faultOf("1 + kind", 4);
        e.says("T1", "a NUMBER that is too long,");
        fault("12345", 0);
        fault("eases 12345", 6);
        fault("eases 1 + 00001;", 10);
        fault("eases 1 12345;", 8);
        fault("eases 1;fines 2;costs 4;12345", 24);
        faultOf(times("9", 100), 0);
    }

    private void openOnes() {
        e.says("T1", "a ( , a not, a - ahead of a ONE while 5 of these are open");
        faultOf("(((((1)))))", -1);
        faultOf("((((((1))))))", 5);
        faultOf("-----1", -1);
        faultOf("------1", 5);
        faultOf("not not not not not 1", -1);
        faultOf("not not not not not not 1", 20);
        faultOf("not(-(-1))", -1);
        faultOf("not(-(-(1)))", 7);
        faultOf("not(-(--1))", 7);
        faultOf("not(-((not 1)))", 7);
        faultOf("not not(-(1))", -1);
        faultOf("not not(-(-1))", 10);
        faultOf("(((((not 1)))))", 5);
        faultOf("(((((-1)))))", 5);
        faultOf("((((not 1))))", -1);
        faultOf("((((-1))))", -1);
        faultOf("----(1)", -1);
        faultOf("-----(1)", 5);
        faultOf("not not not not -1", -1);
        faultOf("not not not not --1", 17);
        faultOf("not not not not not -1", 20);
        faultOf("(((((1-1-1-1-1-1-1)))))", -1);
        faultOf("(((((1--1)))))", 7);
        faultOf("(((((1*-1)))))", 7);
        fault("eases (((((1)))));fines (((((2)))));costs (((((4)))));", -1);
        fault("eases 1;fines 2;costs ((((((4))))));", 27);
    }

    private void openTill() {
        e.says("T1", "(a ( till its ) , not and - till what they belong to ends).");
        faultOf("(((((1)))))+(((((1)))))", -1);
        faultOf("(((((1)+(1)))))", -1);
        faultOf("((((1))))*((((-1))))", -1);
        faultOf("-----1*-----1", -1);
        faultOf("-----1------1", -1);
        faultOf("-----1-------1", 12);
        faultOf("not not not not not 1 and not 1", -1);
        faultOf("not not not not not 1 or not not not not not 1", -1);
        faultOf("not not not not not 1 < -1", 24);
        faultOf("not not not not 1 < -1", -1);
        faultOf("not not not not 1 < --1", 21);
        faultOf("not not not not not 1 + (1)", 24);
        faultOf("not not not not 1 + (1) + (1)", -1);
        faultOf("not not not not 1 = (1) and ((((1 + (1)))))", -1);
        faultOf("(not not not not 1) + -----1", -1);
        faultOf("----(1) + (((((1)))))", -1);
        faultOf("-(-1) + (((((1)))))", -1);
        faultOf("((((-1) + -1)))", -1);
        faultOf("((((-1) + --1)))", -1);
        faultOf("((((-1) + ---1)))", 12);
    }

    private void sixTexts() {
        e.says("T1", "There are 6 TEXTS at most, TEXT 0 with them.");
        CoatsFitTheMood x = new CoatsFitTheMood();
        e.is("at first", x.count(2), 1);
        for (int i = 1; i <= 5; i++) e.is("TEXT " + i, Due.text(x, SHORT), i);
        e.is("a seventh", Due.text(x, SHORT), FULL);
        e.is("count(2)", x.count(2), 6);
        e.is("force(5)", x.force(5), 0);
        e.is("force(6)", x.force(6), BAD);
    }

    private void names() {
        e.says("T1", "Of a COAT, a MOOD, an HOUR: cut: CUT; mood: MOOD; number: NUMBER; hour: the HOUR; worn: WORN; off: OFF.");
        value("cut", 40);
        value("mood", 62);
        value("number", 7);
        value("hour", 13);
        value("worn", 21);
        value("off", 22);
        CoatsFitTheMood x = new CoatsFitTheMood();
        x.coat(0, 0, 99);
        x.coat(0, 9, 0);
        x.set(3, 1, 999);
        Due.rule(x, "eases worn - 900; fines off; costs number * 10 + hour - 23;");
        e.is("off below", x.asks(0, 1, 1), 99);
        e.is("off above", x.asks(1, 9800, 1), 98);
        e.is("number, hour", x.asks(1, 23, 2), 90);
        e.is("worn 999", x.asks(1, 9900, 0), 1);
        e.is("worn 0", x.asks(0, 9800, 0), 0);
        x.set(3, 1, 998);
        e.is("worn 998", x.asks(1, 9800, 0), 1);
        e.is("worn 998", x.asks(1, 9900, 0), 0);
    }

    private void boundsOfTexts() {
        e.says("T1", "eases, fines, costs (0 .. 99, else the bound).");
        value("99", 99);
        value("100", 99);
        value("9999", 99);
        value("0 - 1", 0);
        value("-9999", 0);
        value("8192*8*(8192*4)", 0);
        CoatsFitTheMood x = new CoatsFitTheMood();
        x.coat(1, 0, 0);
        x.coat(2, 0, 0);
        x.coat(4, 9, 0);
        Due.rule(x, "eases 9999; fines 9999; costs 9999;");
        e.is("eases no more than 99: a TIGHT FITS 49", x.asks(0, 4900, 0), 1);
        e.is("eases no more than 99: a TIGHT doesn't FIT 50", x.asks(0, 5000, 0), 0);
        e.is("fines no more than 99: half", x.asks(1, 0, 1), 49);
        e.is("costs no more than 99", x.asks(1, 0, 2), 99);
        Due.rule(x, "eases 0-9999; fines 0-9999; costs 0-9999;");
        e.is("eases no less than 0: a TIGHT FITS 0", x.asks(0, 0, 0), 1);
        e.is("eases no less than 0: a LOOSE FITS 10", x.asks(1, 1000, 0), 1);
        e.is("eases no less than 0: a LOOSE doesn't FIT 11", x.asks(1, 1100, 0), 0);
        e.is("fines no less than 0: a TIGHT's", x.asks(0, 0, 1), 2);
        e.is("costs no less than 0: an IRONY's", x.asks(2, 0, 2), 3);
    }

    private void theFirstRule() {
        e.says("T1", "TEXT 0, at first THE RULE, is: eases 15 ; fines 5 ; costs 3 ;");
        CoatsFitTheMood x = new CoatsFitTheMood();
        x.coat(0, 0, 50);
        for (int hour = 0; hour < 24; hour += 23) {
            e.is("eases 15", x.asks(0, 6500 + hour, 0), 1);
            e.is("eases 15", x.asks(0, 6600 + hour, 0), 0);
            e.is("fines 5", x.asks(0, 9900 + hour, 1), 5);
            e.is("costs 3", x.asks(0, 9900 + hour, 2), 3);
        }
        e.is("count(4)", x.count(4), 0);
        Due.rule(x, SHORT);
        e.is("costs 4 by another", x.asks(0, 9900, 2), 4);
        e.is("force(0)", x.force(0), 1);
        e.is("costs 3 again", x.asks(0, 9900, 2), 3);
    }

    private void feed() {
        e.says("6", "A byte (0 .. 255) comes behind THE TAPE: how many it has.");
        CoatsFitTheMood x = new CoatsFitTheMood();
        e.is("feed(0)", x.feed(0), 1);
        e.is("feed(255)", x.feed(255), 2);
        x.text();
        for (int i = 0; i < 24; i++) e.is("feed(" + (int) SHORT.charAt(i) + ")", x.feed(SHORT.charAt(i)), i + 1);
        e.is("in their order", x.text(), 1);
        e.says("6", "BAD;");
        int[] noBytes = {-1, 256, -256, MOST, LEAST};
        for (int b : noBytes) e.is("feed(" + b + ")", x.feed(b), BAD);
        e.is("count(3)", x.count(3), 0);
        for (int i = 0; i < 160; i++) x.feed(' ');
        for (int b : noBytes) e.is("full: feed(" + b + ")", x.feed(b), BAD);
        e.says("6", "FULL.");
        e.is("feed(0)", x.feed(0), FULL);
        e.is("feed(255)", x.feed(255), FULL);
        e.is("count(3)", x.count(3), 160);
        e.is("what came stays", x.text(), -260);
        e.is("room again", x.feed(32), 1);
    }

    private void text() {
        CoatsFitTheMood x = new CoatsFitTheMood();
        e.says("7", "THE TAPE, which is empty then (by a FAULT, too),");
        e.is("a TEXT", Due.text(x, SHORT), 1);
        e.is("count(3)", x.count(3), 0);
        e.is("a FAULT", Due.text(x, "eases ?"), -106);
        e.is("count(3)", x.count(3), 0);
        e.is("feed(101)", x.feed('e'), 1);
        e.is("nothing of the last one is left", x.text(), -100);
        e.says("7", "is a TEXT: its number;");
        e.is("a second TEXT", Due.text(x, "eases 7;fines 8;costs 9;"), 2);
        e.is("count(2)", x.count(2), 3);
        e.is("THE RULE stays", x.count(4), 0);
        x.coat(0, 0, 0);
        x.force(2);
        e.is("it is that one", x.asks(0, 0, 2), 9);
        e.says("7", "-100 less the place of its FAULT.");
        e.is("at 0", Due.text(x, "?"), -100);
        e.is("an empty TAPE", x.text(), -100);
        e.is("at 1", Due.text(x, " ?"), -101);
        e.is("at 159", Due.text(x, times(" ", 159) + "?"), -259);
        e.is("at the size of 160", Due.text(x, times("\n", 160)), -260);
        e.is("none of them came", x.count(2), 3);
        for (int i = 3; i <= 5; i++) Due.text(x, SHORT);
        e.says("7", "FULL (ahead of all): no TEXT more has room (THE TAPE stays).");
        e.is("an empty TAPE", x.text(), FULL);
        e.is("a FAULT", Due.text(x, "?"), FULL);
        e.is("count(3)", x.count(3), 1);
        e.is("a TEXT", Due.text(x, SHORT), FULL);
        e.is("count(3)", x.count(3), 25);
        e.is("count(2)", x.count(2), 6);
    }

    private void force() {
        CoatsFitTheMood x = new CoatsFitTheMood();
        x.coat(0, 0, 50);
        Due.text(x, SHORT);
        Due.text(x, "eases 7;fines 8;costs 9;");
        e.says("8", "A TEXT is THE RULE:");
        x.force(2);
        e.is("its eases", x.asks(0, 5700, 0), 1);
        e.is("its eases", x.asks(0, 5800, 0), 0);
        e.is("its fines", x.asks(0, 0, 1), 8);
        e.is("its costs", x.asks(0, 0, 2), 9);
        e.is("count(4)", x.count(4), 2);
        e.says("8", "which was.");
        e.is("force(1)", x.force(1), 2);
        e.is("force(1)", x.force(1), 1);
        e.is("force(0)", x.force(0), 1);
        e.is("force(2)", x.force(2), 0);
        e.says("8", "BAD.");
        int[] noTexts = {-1, 3, 5, 6, MOST, LEAST};
        for (int text : noTexts) e.is("force(" + text + ")", x.force(text), BAD);
        Due.text(x, "eases ?");
        e.is("a FAULT is none", x.force(3), BAD);
        e.is("count(4)", x.count(4), 2);
    }
}
