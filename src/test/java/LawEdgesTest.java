/** The edges of promises 6 to 8, sentence by sentence: THE TAPE, the reading of a TEXT, how much it draws. */
public final class LawEdgesTest {
    private static final Due due = new Due();
    private static final int TEXT = -1;

    public static void main(String[] args) {
        feed();
        tapeIsEmptyThen();
        linesAndAsks();
        numbers();
        names();
        signs();
        open();
        tooEarly();
        fullTape();
        lawStands();
        draws();
        withoutText();
        held();
        wraps();
        division();
        oneOrNone();
        whichLineCounts();
        whatNamesMean();
        due.end();
    }

    /** What law() answers to a TEXT: 1, or -100 less the place of its FAULT. */
    private static void fault(String text, int place) {
        due.is("law of " + text, Due.law(new DrownedLight(), text), place == TEXT ? 1 : -100 - place);
    }

    /** How much one is drawn by a TEXT who lies in CELL 0 and owes nothing. */
    private static void value(String text, int want) {
        DrownedLight x = new DrownedLight();
        x.lost(0, 0);
        due.is("law of " + text, Due.law(x, text), 1);
        due.is("draws by " + text, x.draws(0), want);
    }

    private static void feed() {
        DrownedLight x = due.sentence("6: a byte (0 .. 255)");
        due.is("-1", x.feed(-1), -1);
        due.is("256", x.feed(256), -1);
        due.is("least", x.feed(Integer.MIN_VALUE), -1);
        due.is("most", x.feed(Integer.MAX_VALUE), -1);
        due.is("none came", x.count(2), 0);
        due.is("0", x.feed(0), 1);
        due.is("255", x.feed(255), 2);
        x = due.sentence("6: FULL (120)");
        for (int i = 1; i <= 120; i++) {
            due.is("how many it has", x.feed('1'), i);
        }
        due.is("the 121st", x.feed('1'), -3);
        due.is("the 122nd", x.feed('1'), -3);
        due.is("BAD is named first: -1", x.feed(-1), -1);
        due.is("BAD is named first: 256", x.feed(256), -1);
        due.is("it has 120", x.count(2), 120);
        x = due.sentence("6: refused, nothing changes");
        x.feed('7');
        x.feed(256);
        x.feed(-1);
        x.feed('8');
        due.is("a TEXT of two bytes", x.law(), 1);
    }

    private static void tapeIsEmptyThen() {
        DrownedLight x = due.sentence("7: THE TAPE is empty then");
        due.is("a TEXT", Due.law(x, "5"), 1);
        due.is("empty behind a TEXT", x.count(2), 0);
        due.is("it has nothing", x.law(), -100);
        due.is("a FAULT", Due.law(x, "5)))"), -101);
        due.is("empty behind a FAULT", x.count(2), 0);
        due.is("the next byte is the first", x.feed('5'), 1);
        x = due.sentence("7: empty, it takes 120 bytes again");
        for (int i = 0; i < 120; i++) {
            x.feed('(');
        }
        due.is("the seventh ( is its FAULT", x.law(), -106);
        for (int i = 1; i <= 120; i++) {
            due.is("byte", x.feed('1'), i);
        }
        due.is("full again", x.feed('1'), -3);
    }

    private static void linesAndAsks() {
        due.sentence("7: LINES, one or more, parted by ;");
        fault("", 0);
        fault("1", TEXT);
        fault(";", 0);
        fault("1;", 2);
        fault("1;2", TEXT);
        fault("1;;2", 2);
        fault(";1", 0);
        fault("1;2;3;4;5;6;7;8", TEXT);
        fault("(1;2)", 2);
        due.sentence("7: LINE: E, or E ? E");
        fault("1?2", TEXT);
        fault("1?", 2);
        fault("?2", 0);
        fault("1??2", 2);
        fault("1?2?3", 3);
        fault("1?2;3?4;5", TEXT);
        fault("1;2?3", TEXT);
        fault("(1?2)", 2);
        fault("1?;2", 2);
    }

    private static void numbers() {
        due.sentence("7: a number (1 to 4 digits)");
        fault("0", TEXT);
        fault("12", TEXT);
        fault("123", TEXT);
        fault("1234", TEXT);
        fault("9999", TEXT);
        fault("0000", TEXT);
        fault("12345", 4);
        fault("00001", 4);
        fault("123456", 4);
        fault("1+12345", 6);
        fault("1234+1234", TEXT);
        fault("(1234)5", 6);
        fault("d1", 1);
        fault("1d", 1);
        due.sentence("8: a number of 4 digits is all of them");
        value("9999=9998", 0);
        value("9999>9998", 1);
        value("0009", 9);
    }

    private static void names() {
        due.sentence("7: NAMES d p o n a l, and no other byte");
        for (int letter = 0; letter < 256; letter++) {
            boolean digit = letter >= '0' && letter <= '9';
            boolean name = "dponal".indexOf((char) letter) >= 0;
            boolean ahead = "(!-".indexOf((char) letter) >= 0;
            due.is("byte " + letter, Due.law(new DrownedLight(), "" + (char) letter), digit || name ? 1 : ahead ? -101 : -100);
        }
        due.sentence("7: which bytes go on behind an O");
        for (int letter = 0; letter < 256; letter++) {
            boolean digit = letter >= '0' && letter <= '9';
            boolean sign = "|&<=>+-*/%?;".indexOf((char) letter) >= 0;
            int want = digit ? 1 : sign ? -102 : -101;
            due.is("behind a number: byte " + letter, Due.law(new DrownedLight(), "1" + (char) letter), want);
            want = sign ? -102 : -101;
            due.is("behind a name: byte " + letter, Due.law(new DrownedLight(), "d" + (char) letter), want);
        }
        due.sentence("7: no blanks");
        fault(" 1", 0);
        fault("1 ", 1);
        fault("1 +1", 1);
        fault("1+ 1", 2);
        fault("1\n", 1);
    }

    private static void signs() {
        due.sentence("7: S < S, S = S, S > S: one of them between two S");
        fault("1<2", TEXT);
        fault("1=2", TEXT);
        fault("1>2", TEXT);
        fault("1<2<3", 3);
        fault("1=2=3", 3);
        fault("1>2<3", 3);
        fault("1+1<2*3=4", 7);
        fault("(1<2)<3", TEXT);
        fault("1<2&3<4|5<6", TEXT);
        fault("1<=2", 2);
        fault("1==2", 2);
        due.sentence("7: { } : none, one or many");
        fault("1|2|3|4", TEXT);
        fault("1&2&3&4", TEXT);
        fault("1+2-3+4", TEXT);
        fault("1*2/3%4", TEXT);
        fault("1||2", 2);
        fault("1&&2", 2);
        fault("1++2", 2);
        fault("1**2", 2);
        fault("1+-2", TEXT);
        fault("1*-2", TEXT);
        fault("1*!2", TEXT);
        fault("1!2", 1);
        fault("!", 1);
        fault("!*2", 1);
        due.sentence("7: ( E )");
        fault("()", 1);
        fault("(1)", TEXT);
        fault("(1))", 3);
        fault(")", 0);
        fault("1)", 1);
        fault("(1(", 2);
        fault("(1)(2)", 3);
        fault("(1|2&3<4+5*6)", TEXT);
    }

    private static void open() {
        due.sentence("7: at most 6 of ( ! - ahead of an O are open at once");
        fault("((((((1))))))", TEXT);
        fault("(((((((1)))))))", 6);
        fault("!!!!!!1", TEXT);
        fault("!!!!!!!1", 6);
        fault("------1", TEXT);
        fault("-------1", 6);
        fault("(!-(!-1))", TEXT);
        fault("(!-(!-(1)))", 6);
        fault("(!-(!-!1))", 6);
        fault("(!-(!--1))", 6);
        fault("1-------1", TEXT);
        fault("1--------1", 8);
        fault("1-(-(-(-1)))", TEXT);
        due.sentence("7: what was open is closed behind its O");
        fault("((((((1))))))+((((((1))))))", TEXT);
        fault("((((((1))))))+(((((((1)))))))", 20);
        fault("!1+!1+!1+!1+!1+!1+!1+!1", TEXT);
        fault("-1-1-1-1-1-1-1-1-1", TEXT);
        fault("(((((!1+-1+(1)+!1)))))", TEXT);
        fault("(((((!(1)+1)))))", 6);
        fault("(((((-1+((1)))))))", 9);
        fault("!!!(!!!1+!!1)", 6);
        fault("!!!(!!1+!!1)", TEXT);
        fault("!!!(!!1)+!!!!!!1", TEXT);
        due.sentence("7: each LINE and each E begins with none open");
        fault("((((((1))))))?((((((1))))));!!!!!!1?------1", TEXT);
    }

    private static void tooEarly() {
        due.sentence("7: FAULT: the length, if it ends too early");
        String[] early = {"", "(", "!", "-", "1+", "1-", "1*", "1/", "1%", "1<", "1=", "1>", "1|", "1&", "1?", "1;", "1?2;", "(1",
            "((1)", "!(1", "((((((1)))))", "1+(2", "!!!!!!"};
        for (String text : early) {
            fault(text, text.length());
        }
        due.sentence("7: FAULT: the first byte, not a later one");
        fault("x)", 0);
        fault("1)x", 1);
        fault("1;x;)", 2);
        fault("1+)+(", 2);
    }

    private static String ofLength(int length) {
        StringBuilder text = new StringBuilder("1");
        while (text.length() < length - 1) {
            text.append("+1");
        }
        while (text.length() < length) {
            text.append('1');
        }
        return text.toString();
    }

    private static void fullTape() {
        due.sentence("7: a TEXT by THE TAPE (at most 120 bytes)");
        fault(ofLength(119), TEXT);
        fault(ofLength(120), TEXT);
        fault(ofLength(119) + "+", 120);
        fault(ofLength(119) + ")", 119);
        fault(ofLength(118) + ")(", 118);
        due.sentence("8: of 120 bytes all count");
        DrownedLight x = new DrownedLight();
        x.lost(0, 0);
        StringBuilder many = new StringBuilder();
        for (int i = 0; i < 29; i++) {
            many.append("0?9;");
        }
        due.is("29 LINES that do not count and one that does", Due.law(x, many + "3+4"), 1);
        due.is("it counts", x.draws(0), 7);
        due.is("60 LINES", Due.law(x, "7;" + "8;".repeat(58) + "95"), 1);
        due.is("the first of them", x.draws(0), 7);
        StringBuilder deep = new StringBuilder();
        for (int i = 0; i < 13; i++) {
            deep.append(i < 12 ? "-(!(-3))-" : "(((8)))");
        }
        due.is("115 bytes of brackets", Due.law(x, deep.toString()), 1);
        due.is("worked out", x.draws(0), 0);
        due.is("119 minus signs and numbers", Due.law(x, "9" + "-0".repeat(59)), 1);
        due.is("nine", x.draws(0), 9);
    }

    private static void lawStands() {
        DrownedLight x = due.sentence("7: with a FAULT no TEXT becomes THE LAW");
        x.lost(0, 0);
        Due.law(x, "9+");
        due.is("still without a text", x.draws(0), 6);
        Due.law(x, "4");
        Due.law(x, "9)");
        due.is("the one before", x.draws(0), 4);
        Due.law(x, "");
        due.is("nor by an empty TAPE", x.draws(0), 4);
        x = due.sentence("7: THE TAPE becomes THE LAW in place of the one before");
        x.lost(0, 0);
        Due.law(x, "1?2;3");
        Due.law(x, "0?8");
        due.is("nothing of the longer one is left", x.draws(0), 0);
        x = due.sentence("7: what is on THE TAPE is not THE LAW yet");
        x.lost(0, 0);
        x.feed('9');
        due.is("without a text", x.draws(0), 6);
    }

    private static void draws() {
        DrownedLight x = due.sentence("8: BAD: no such one");
        due.is("nobody", x.draws(0), -1);
        Due.lost(x, 0, 0);
        for (int one : new int[] {-1, 2, 10, Integer.MIN_VALUE, Integer.MAX_VALUE}) {
            due.is("draws(" + one + ")", x.draws(one), -1);
        }
        due.is("the last one", x.draws(1), 6);
        x = due.sentence("8: seen or not");
        Due.lost(x, 27, 24);
        x.mend(0, 7, 0);
        due.is("in THE LAMP's CELL", x.draws(0), 6);
        due.is("without OIL", x.draws(1), 6);
        x.mend(1, 3, 1);
        due.is("HOME", x.draws(1), 6);
    }

    private static void withoutText() {
        DrownedLight x = due.sentence("8: without a text: 6, less p by 2 (cut), less o by 3 (cut)");
        x.lost(0, 0);
        int[] byDepth = {6, 6, 5, 5, 4, 4, 3, 3, 2, 2};
        int[] byOwed = {6, 6, 6, 5, 5, 5, 4, 4, 4, 3};
        for (int v = 0; v < 10; v++) {
            x.mend(0, 4, v);
            due.is("DEPTH " + v, x.draws(0), byDepth[v]);
            x.mend(0, 4, 0);
            x.mend(0, 2, v);
            due.is("OWED " + v, x.draws(0), byOwed[v]);
            x.mend(0, 2, 0);
        }
        x = due.sentence("8: without a text held within 0 .. 9, too");
        x.lost(0, 0);
        x.mend(0, 4, 8);
        x.mend(0, 2, 6);
        due.is("just 0", x.draws(0), 0);
        x.mend(0, 2, 9);
        due.is("below 0", x.draws(0), 0);
    }

    private static void held() {
        due.sentence("8: held within 0 .. 9");
        value("0", 0);
        value("1", 1);
        value("8", 8);
        value("9", 9);
        value("10", 9);
        value("9999", 9);
        value("-1", 0);
        value("-9999", 0);
        value("1024*1024*2*1024", 0);
        value("1024*1024*2*1024-1", 9);
    }

    private static void wraps() {
        due.sentence("8: ints that wrap");
        value("9999*9999*43/9999-410", 7);
        value("9999*9999*9999<0", 1);
        value("1024*1024*2*1024<0", 1);
        value("1024*1024*2*1024-1>0", 1);
        value("(1024*1024*2*1024-1)+1<0", 1);
        value("-(1024*1024*2*1024)<0", 1);
        value("-(1024*1024*2*1024)=1024*1024*2*1024", 1);
        value("1024*1024*4*1024", 0);
        value("1024*1024*4*1024+5", 5);
    }

    private static void division() {
        due.sentence("8: / and % toward 0");
        value("7/2", 3);
        value("(0-7)/2+9", 6);
        value("7/(0-2)+9", 6);
        value("-7/-2", 3);
        value("7%4", 3);
        value("-7%4+9", 6);
        value("7%-4", 3);
        value("-7%-4+9", 6);
        value("1/2", 0);
        value("-1/2", 0);
        due.sentence("8: by 0 they give 0");
        value("7/0", 0);
        value("7%0", 0);
        value("0/0+1", 1);
        value("0%0+1", 1);
        value("7/0+3", 3);
        value("7%0+3", 3);
        value("7/(3-3)+3", 3);
        due.sentence("8: the least int by -1");
        value("1024*1024*2*1024/-1<0", 1);
        value("1024*1024*2*1024%-1+4", 4);
    }

    private static void oneOrNone() {
        due.sentence("8: | & < = > ! give 1, 0");
        value("(7|0)+3", 4);
        value("(0|7)+3", 4);
        value("(7|7)+3", 4);
        value("(0|0)+3", 3);
        value("(-1|0)+3", 4);
        value("(0|-1)+3", 4);
        value("(7&7)+3", 4);
        value("(7&0)+3", 3);
        value("(0&7)+3", 3);
        value("(0&0)+3", 3);
        value("(-1&7)+3", 4);
        value("(7&-1)+3", 4);
        value("(2&1)+3", 4);
        value("(2<3)+3", 4);
        value("(3<3)+3", 3);
        value("(4<3)+3", 3);
        value("(-1<0)+3", 4);
        value("(3=3)+3", 4);
        value("(3=4)+3", 3);
        value("(4>3)+3", 4);
        value("(3>3)+3", 3);
        value("(2>3)+3", 3);
        value("!0+3", 4);
        value("!1+3", 3);
        value("!7+3", 3);
        value("!-1+3", 3);
        value("!!7+3", 4);
        due.sentence("8: the tiers: O ahead of P ahead of S ahead of B ahead of A ahead of E");
        value("2+3*2", 8);
        value("9-4-3", 2);
        value("9/2*2", 8);
        value("-2+5", 3);
        value("!0*5", 5);
        value("3<2+2", 1);
        value("1&2<3", 1);
        value("0&0|1", 1);
        value("1|0&0", 1);
        value("(1|0)&0", 0);
        due.sentence("8: all is worked out");
        value("1|1/0", 1);
        value("0&1/0", 0);
        value("0?1/0;3", 3);
    }

    private static void whichLineCounts() {
        due.sentence("8: the first LINE without a first E counts");
        value("5;6", 5);
        value("0;6", 0);
        value("5;1?6", 5);
        value("0?9;5;6", 5);
        due.sentence("8: or whose first E is not 0");
        value("1?5;6", 5);
        value("7?5;6", 5);
        value("-1?5;6", 5);
        value("0?5;6", 6);
        value("1?0;6", 0);
        value("0?5;1?4;6", 4);
        due.sentence("8: none: 0");
        value("0?5", 0);
        value("0?5;0?6;1-1?7", 0);
    }

    private static void value(DrownedLight x, String text, int want) {
        due.is("law of " + text, Due.law(x, text), 1);
        due.is("draws by " + text, x.draws(0), want);
    }

    private static void whatNamesMean() {
        DrownedLight x = due.sentence("8: d how far he is from THE LAMP (X and Y apart together)");
        x.lost(0, 0);
        x.mend(0, 6, 5);
        value(x, "d", 5);
        x.mend(0, 6, 32);
        value(x, "d", 4);
        x.mend(0, 6, 42);
        value(x, "d", 7);
        x.mend(0, 0, 43);
        value(x, "d", 1);
        x.mend(0, 0, 24);
        value(x, "d", 4);
        x.mend(0, 0, 15);
        value(x, "d-1", 8);
        x.mend(0, 0, 42);
        value(x, "d", 0);
        x = due.sentence("8: p DEPTH of his CELL, o OWED");
        Due.lost(x, 12, 13);
        x.mend(12, 4, 9);
        x.mend(13, 4, 2);
        x.mend(0, 2, 8);
        x.mend(1, 2, 3);
        value(x, "p", 9);
        due.is("the other's p", x.draws(1), 2);
        value(x, "o", 8);
        due.is("the other's o", x.draws(1), 3);
        x = due.sentence("8: n how many others that are not HOME are in his CELL");
        x.lost(0, 0);
        value(x, "n", 0);
        Due.lost(x, 1, 0, 0, 0, 0, 0, 0, 0, 0);
        value(x, "n", 8);
        x.mend(9, 3, 1);
        value(x, "n", 7);
        x.mend(0, 3, 1);
        value(x, "n", 7);
        x = due.sentence("8: a how many of his PARISH are HOME");
        x.lost(0, 2);
        value(x, "a", 0);
        for (int parish = 0; parish < 4; parish++) {
            x.mend(x.lost(9, parish), 3, 1);
        }
        value(x, "a", 1);
        x.mend(0, 3, 1);
        value(x, "a", 2);
        x.mend(0, 1, 3);
        value(x, "a", 2);
        x = due.sentence("8: l OIL (as the night begins)");
        x.lost(25, 0);
        x.mend(0, 7, 3);
        value(x, "l=3?9;0", 9);
        due.is("he walks by the OIL that is there ahead of burning", x.night(3) + x.of(0, 0), 26);
        due.is("and is not drawn behind it", x.draws(0), 0);
    }
}
