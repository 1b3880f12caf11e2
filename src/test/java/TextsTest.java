/** Promises 6 to 8: feed, text, force; with what a TEXT is, and where its FAULT is. */
public final class TextsTest {
    private static final Due due = new Due("TextsTest");
    private static final int BAD = -2, FULL = -4;
    private static final int NO_FAULT = -1;

    public static void main(String[] args) {
        tapeFills();
        textsCome();
        textsAreFull();
        faultsOfTokens();
        faultsOfTheGrammar();
        faultsOfWhatIsOpen();
        valuesOfNames();
        valuesOfOperations();
        valuesAreBounded();
        valuesWrap();
        forces();
        due.end();
    }

    private static void tapeFills() {
        CoatsFitTheMood x = new CoatsFitTheMood();
        due.is("6 feed(-1)", x.feed(-1), BAD);
        due.is("6 feed(256)", x.feed(256), BAD);
        due.is("6 feed(MIN)", x.feed(Integer.MIN_VALUE), BAD);
        due.is("6 none came", x.count(3), 0);
        for (int i = 1; i <= 160; i++) due.is("6 byte " + i, x.feed(i % 2 == 0 ? 0 : 255), i);
        due.is("6 byte 161", x.feed(32), FULL);
        due.is("6 BAD is ahead of FULL", x.feed(256), BAD);
        due.is("6 160 stay", x.count(3), 160);
        due.is("7 a FAULT empties THE TAPE", x.text(), -100);
        due.is("7 THE TAPE is empty", x.count(3), 0);
        due.is("6 it fills anew", x.feed(97), 1);
    }

    private static void textsCome() {
        CoatsFitTheMood x = new CoatsFitTheMood();
        due.is("7 nothing on THE TAPE", x.text(), -100);
        due.is("7 one", Due.text(x, "eases 1;fines 2;costs 3;"), 1);
        due.is("7 THE TAPE is empty then", x.count(3), 0);
        due.is("7 THE RULE stays", x.count(4), 0);
        due.is("7 a FAULT is no TEXT", Due.text(x, "eases 1;fines 2;costs 3"), -123);
        due.is("7 TEXTS", x.count(2), 2);
        due.is("7 another", Due.text(x, " \n eases\n1 ;\nfines 2 ; costs 3 ; \n "), 2);
        due.is("7 TEXTS", x.count(2), 3);
        StringBuilder longest = new StringBuilder("eases 1;fines 2;costs 3");
        while (longest.length() < 157) longest.append("+1");
        longest.append("   ", 0, 159 - longest.length()).append(';');
        due.is("7 the longest", longest.length(), 160);
        due.is("7 the longest", Due.text(x, longest.toString()), 3);
    }

    private static void textsAreFull() {
        CoatsFitTheMood x = new CoatsFitTheMood();
        for (int i = 1; i <= 5; i++) due.is("7 text " + i, Due.text(x, "eases 1;fines 2;costs 3;"), i);
        due.is("7 no TEXT more has room", Due.text(x, "eases 1;fines 2;costs 3;"), FULL);
        due.is("7 THE TAPE stays", x.count(3), 24);
        due.is("7 six TEXTS", x.count(2), 6);
        due.is("7 FULL is ahead of a FAULT", Due.text(x, "?"), FULL);
        due.is("7 THE TAPE stays", x.count(3), 25);
        CoatsFitTheMood y = new CoatsFitTheMood();
        for (int i = 1; i <= 5; i++) Due.text(y, "eases 1;fines 2;costs 3;");
        due.is("7 FULL is ahead of an empty TAPE", y.text(), FULL);
    }

    /** The place of the FAULT of a text, or NO_FAULT. */
    private static void fault(String text, int place) {
        CoatsFitTheMood x = new CoatsFitTheMood();
        int got = Due.text(x, text);
        due.is("7 '" + text + "'", got, place == NO_FAULT ? 1 : -100 - place);
        due.is("7 TEXTS after '" + text + "'", x.count(2), place == NO_FAULT ? 2 : 1);
        due.is("7 THE TAPE after '" + text + "'", x.count(3), 0);
    }

    /** The same of an E, which stands behind six bytes. */
    private static void faultOfE(String e, int place) {
        fault("eases " + e + "; fines 5; costs 3;", place == NO_FAULT ? NO_FAULT : 6 + place);
    }

    private static void faultsOfTokens() {
        faultOfE("1234", NO_FAULT);
        faultOfE("0000", NO_FAULT);
        faultOfE("12345", 0);
        faultOfE("00001", 0);
        faultOfE("1+12345", 2);
        faultOfE("1 12345", 2);
        faultOfE("1 \t", 2);
        faultOfE("Cut", 0);
        faultOfE("cuT", 0);
        faultOfE("mood\r", 4);
        faultOfE("1,2", 1);
        faultOfE("1 > 2", 2);
        faultOfE("1 + foo", 4);
        faultOfE("1 foo", 2);
        faultOfE("moods", 0);
        faultOfE("moo", 0);
        faultOfE("notcut", 0);
        faultOfE("cutor1", 0);
        faultOfE("orcut", 0);
        faultOfE("1or2and3", NO_FAULT);
        faultOfE("not(cut)and not-mood", NO_FAULT);
        faultOfE("2cut", 1);
        faultOfE("cut2", 3);
        faultOfE("1" + (char) 0, 1);
        faultOfE("1" + (char) 255, 1);
        faultOfE("1" + (char) 160, 1);
        fault("eases1;fines2;costs3;", NO_FAULT);
        fault("eases1;fines2;costs3;x", 21);
        fault("eases1;fines2;costs3; ?", 22);
        fault("eases1;fines2;costs3;99999", 21);
        fault("eases1;fines2;costs3;;", 21);
        fault("eases1;fines2;costs3;" + (char) 0, 21);
        faultOfE("" + (char) 0, 0);
        faultOfE("" + (char) 1, 0);
        faultOfE("" + (char) 2, 0);
        faultOfE("1+" + (char) 2, 2);
        String[] words = {"cut", "mood", "number", "hour", "worn", "off"};
        for (String word : words) {
            faultOfE(word, NO_FAULT);
            faultOfE("x" + word.substring(1), 0);
            faultOfE(word.substring(0, word.length() - 1) + "x", 0);
            faultOfE(word + "a", 0);
            faultOfE(word + "z", 0);
            faultOfE(word.substring(1), 0);
        }
        fault("xases 1;", 0);
        fault("easez 1;", 0);
        fault("eases 1;xines 2;", 8);
        fault("eases 1;fines 2;xosts 3;", 16);
        faultOfE("1 xr 2", 2);
        faultOfE("1 xnd 2", 2);
        faultOfE("xot 2", 0);
        fault("?", 0);
        fault(" ?", 1);
        fault("ease 1;", 0);
    }

    private static void faultsOfTheGrammar() {
        fault("", 0);
        fault("  \n", 3);
        fault("eases", 5);
        fault("eases ", 6);
        fault("eases 1", 7);
        fault("eases 1 ;", 9);
        fault("eases 1;fines 2;costs", 21);
        fault("eases 1;fines 2;costs 3  ", 25);
        fault("eases;", 5);
        fault("fines 1;", 0);
        fault("eases 1;costs 2;", 8);
        fault("eases 1;eases 2;", 8);
        fault("eases 1;fines 2;eases 3;", 16);
        fault("eases 1;fines 2;costs 3; eases", 25);
        fault("1", 0);
        fault(";", 0);
        faultOfE("", 0);
        faultOfE("1 2", 2);
        faultOfE("cut mood", 4);
        faultOfE("eases", 0);
        faultOfE("1 or", 4);
        faultOfE("or 1", 0);
        faultOfE("and 1", 0);
        faultOfE("1 or or 2", 5);
        faultOfE("1 and and 2", 6);
        faultOfE("* 1", 0);
        faultOfE("+ 1", 0);
        faultOfE("1 + + 2", 4);
        faultOfE("1 * * 2", 4);
        faultOfE("1 - - 2", NO_FAULT);
        faultOfE("1 * - 2", NO_FAULT);
        faultOfE("1 < 2 < 3", 6);
        faultOfE("1 = 2 = 3", 6);
        faultOfE("1 < 2 = 3", 6);
        faultOfE("(1 < 2) < 3", NO_FAULT);
        faultOfE("< 1", 0);
        faultOfE("1 <", 3);
        faultOfE("1 < = 2", 4);
        faultOfE("()", 1);
        faultOfE("(1", 2);
        faultOfE("(1))", 3);
        faultOfE(")", 0);
        faultOfE("(1;)", 2);
        faultOfE("1 (2)", 2);
        faultOfE("(1) (2)", 4);
        faultOfE("1 not 2", 2);
        faultOfE("1 + not 2", 4);
        faultOfE("- not 2", 2);
        faultOfE("1 < not 2", 4);
        faultOfE("1 * not 2", 4);
        faultOfE("1 and not 2 or not 3", NO_FAULT);
        faultOfE("1 < (not 2)", NO_FAULT);
        faultOfE("not", 3);
    }

    private static void faultsOfWhatIsOpen() {
        faultOfE("(((((1)))))", NO_FAULT);
        faultOfE("((((((1))))))", 5);
        faultOfE("-----1", NO_FAULT);
        faultOfE("------1", 5);
        faultOfE("not not not not not 1", NO_FAULT);
        faultOfE("not not not not not not 1", 20);
        faultOfE("not(-(-1))", NO_FAULT);
        faultOfE("not(-(-(1)))", 7);
        faultOfE("not(-(--1))", 7);
        faultOfE("not(-((1)))", NO_FAULT);
        faultOfE("not(-((-1)))", 7);
        faultOfE("not(-(((1))))", 7);
        faultOfE("not(-((not 1)))", 7);
        faultOfE("(((((not 1)))))", 5);
        faultOfE("(((((-1)))))", 5);
        faultOfE("(((((1-1)))))", NO_FAULT);
        faultOfE("(((((1--1)))))", 7);
        faultOfE("(((((1)))))+(((((1)))))", NO_FAULT);
        faultOfE("(((((1)+(1)))))", NO_FAULT);
        faultOfE("-----1*-----1", NO_FAULT);
        faultOfE("-----1------1", NO_FAULT);
        faultOfE("-----1-------1", 12);
        faultOfE("not not not not not 1 and not 1", NO_FAULT);
        faultOfE("not not not not not 1 < -1", 24);
        faultOfE("not not not not 1 < -1", NO_FAULT);
        faultOfE("not not not not 1 < --1", 21);
        faultOfE("((((-1+-1))))", NO_FAULT);
        faultOfE("((((-1)+-1)))", NO_FAULT);
    }

    /** What an E is of a COAT of NUMBER 7, CUT 40, WORN 321, at MOOD 62, HOUR 13. */
    private static int value(String e) {
        CoatsFitTheMood x = new CoatsFitTheMood();
        x.coat(0, 7, 40);
        x.set(3, 0, 321);
        Due.rule(x, "eases 0; fines " + e + "; costs 0;");
        return x.asks(0, 6213, 1);
    }

    private static void valuesOfNames() {
        due.is("7 cut", value("cut"), 40);
        due.is("7 mood", value("mood"), 62);
        due.is("7 number", value("number"), 7);
        due.is("7 hour", value("hour"), 13);
        due.is("7 worn", value("worn - 300"), 21);
        due.is("7 off", value("off"), 22);
        CoatsFitTheMood x = new CoatsFitTheMood();
        x.coat(0, 0, 62);
        Due.rule(x, "eases 11; fines 22; costs off;");
        due.is("7 off below", x.asks(0, 4000, 2), 22);
        due.is("7 fines stand apart", x.asks(0, 4000, 1), 22);
        due.is("7 eases stand apart", x.asks(0, 5100, 0), 1);
        due.is("7 eases stand apart", x.asks(0, 5000, 0), 0);
    }

    private static void valuesOfOperations() {
        due.is("7 +", value("30 + 12"), 42);
        due.is("7 -", value("30 - 12"), 18);
        due.is("7 - goes from the left", value("30 - 12 - 8"), 10);
        due.is("7 - and + go from the left", value("30 - 12 + 8"), 26);
        due.is("7 *", value("6 * 7"), 42);
        due.is("7 * ahead of +", value("2 + 3 * 4"), 14);
        due.is("7 ( )", value("(2 + 3) * 4"), 20);
        due.is("7 - ONE", value("50 + -8"), 42);
        due.is("7 - ONE ahead of *", value("60 - -2 * -3"), 54);
        due.is("7 - -", value("- -5"), 5);
        due.is("7 <", value("1 < 2"), 1);
        due.is("7 < of like ones", value("2 < 2"), 0);
        due.is("7 < the other way", value("3 < 2"), 0);
        due.is("7 < below 0", value("-3 < -2"), 1);
        due.is("7 =", value("2 = 2"), 1);
        due.is("7 = of unlike ones", value("2 = 3"), 0);
        due.is("7 + ahead of <", value("1 + 1 < 3"), 1);
        due.is("7 + ahead of =", value("3 = 1 + 2"), 1);
        due.is("7 not 0", value("not 0"), 1);
        due.is("7 not 5", value("not 5"), 0);
        due.is("7 not not 5", value("not not 5"), 1);
        due.is("7 < ahead of not", value("not 2 < 1"), 1);
        due.is("7 = ahead of not", value("not 0 = 0"), 0);
        due.is("7 not ahead of and", value("not 1 and 0"), 0);
        due.is("7 not ahead of or", value("not 1 or 1"), 1);
        due.is("7 or", value("0 or 7"), 1);
        due.is("7 or, the first", value("7 or 0"), 1);
        due.is("7 or of none", value("0 or 0"), 0);
        due.is("7 or of both", value("4 or 2"), 1);
        due.is("7 and", value("4 and 2"), 1);
        due.is("7 and, the first", value("4 and 0"), 0);
        due.is("7 and, the other", value("0 and 4"), 0);
        due.is("7 what is not 0 is true", value("-1 and -2"), 1);
        due.is("7 and ahead of or", value("1 or 0 and 0"), 1);
        due.is("7 ( ) ahead of and", value("(1 or 0) and 0"), 0);
        due.is("7 or thrice", value("0 or 0 or 3"), 1);
        due.is("7 and thrice", value("1 and 2 and 0"), 0);
        due.is("7 a sum of those", value("(1 < 2) + (2 = 2) + (not 0)"), 3);
        due.is("7 leading 0", value("0042"), 42);
        due.is("7 deep", value("(1+2*(1+2*(1+2*(1+2*(1+2*1)))))"), 63);
        due.is("7 deep with all", value("1 or 1 and 0 = 0 + 1 * (0 or 0 and 0 = 0 + 1 * (0 or 1 and 1 = 1 + 1 * (0)))"), 1);
    }

    private static void valuesAreBounded() {
        due.is("7 99", value("99"), 99);
        due.is("7 100", value("100"), 99);
        due.is("7 9999", value("9999"), 99);
        due.is("7 -1", value("-1"), 0);
        due.is("7 0 - 9999", value("0-9999"), 0);
        CoatsFitTheMood x = new CoatsFitTheMood();
        x.coat(0, 0, 0);
        x.coat(4, 0, 0);
        Due.rule(x, "eases 9999; fines -1; costs 0 - 5;");
        due.is("7 eases bounded", x.asks(0, 9900, 0), 1);
        due.is("7 eases bounded: a LOOSE fits all, an IRONY none", x.asks(1, 9900, 0), 0);
        due.is("7 fines bounded", x.asks(0, 0, 1), 0);
        due.is("7 costs bounded", x.asks(0, 0, 2), 0);
        Due.rule(x, "eases 0 - 20; fines 0; costs 0;");
        due.is("7 eases bounded below", x.asks(0, 0, 0), 1);
        due.is("7 eases bounded below: a LOOSE fits 10", x.asks(1, 1000, 0), 0);
        due.is("7 eases bounded below: a LOOSE fits no 11", x.asks(1, 1100, 0), 1);
    }

    private static void valuesWrap() {
        // 65536 * 65536 is 0, 46341 * 46341 is below 0.
        due.is("7 * wraps to 0", value("8192*8 * (8192*8) + 5"), 5);
        due.is("7 * wraps below 0", value("8000*6*(8000*6) < 0"), 1);
        due.is("7 + wraps", value("8192*8*(8192*4) - 1 + 1 < 0"), 1);
        due.is("7 - wraps", value("0 < 8192*8*(8192*4) - 1"), 1);
        due.is("7 the least is its own -", value("-(8192*8*(8192*4)) < 0"), 1);
    }

    private static void forces() {
        CoatsFitTheMood x = new CoatsFitTheMood();
        x.coat(0, 0, 50);
        due.is("8 force(0)", x.force(0), 0);
        due.is("8 force(1)", x.force(1), BAD);
        due.is("8 force(-1)", x.force(-1), BAD);
        Due.text(x, "eases 1; fines 2; costs 4;");
        Due.text(x, "eases 10; fines 20; costs 40;");
        due.is("8 no TEXT is forced as it comes", x.asks(0, 5000, 2), 3);
        due.is("8 force(2)", x.force(2), 0);
        due.is("8 its costs", x.asks(0, 5000, 2), 40);
        due.is("8 its fines", x.asks(0, 5000, 1), 20);
        due.is("8 its eases", x.asks(0, 6000, 0), 1);
        due.is("8 its eases", x.asks(0, 6100, 0), 0);
        due.is("8 force(3)", x.force(3), BAD);
        due.is("8 force(MAX)", x.force(Integer.MAX_VALUE), BAD);
        due.is("8 force(MIN)", x.force(Integer.MIN_VALUE), BAD);
        due.is("8 THE RULE stays", x.count(4), 2);
        due.is("8 force(1)", x.force(1), 2);
        due.is("8 its costs", x.asks(0, 5000, 2), 4);
        due.is("8 force(0)", x.force(0), 1);
        due.is("8 its costs", x.asks(0, 5000, 2), 3);
        due.is("8 its fines", x.asks(0, 5000, 1), 5);
        Due.text(x, "eases 10; fines ; costs 40;");
        due.is("8 a FAULT is no TEXT to force", x.force(3), BAD);
        Due.rule(x, "eases 3; fines 3; costs 9;");
        due.is("8 a TEXT that came behind a FAULT", x.asks(0, 5000, 2), 9);
    }
}
