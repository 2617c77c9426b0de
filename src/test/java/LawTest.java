/** Promises 6 to 8: the tape, the law, how much it draws. */
public final class LawTest {
    private static final Due due = new Due();

    public static void main(String[] args) {
        feed();
        faults();
        allShortTexts();
        draws();
        signs();
        names();
        lines();
        due.end();
    }

    private static void feed() {
        due.promise("6 feed");
        DrownedLight x = new DrownedLight();
        due.is("-1", x.feed(-1), -1);
        due.is("256", x.feed(256), -1);
        for (int i = 1; i <= 120; i++) {
            due.is("byte " + i, x.feed(i % 2 == 0 ? 0 : 255), i);
        }
        due.is("the 121st", x.feed(65), -3);
        due.is("BAD ahead of FULL", x.feed(256), -1);
        due.is("count", x.count(2), 120);
        due.is("fault at once", x.law(), -100);
        due.is("the tape is empty", x.count(2), 0);
        due.is("it starts anew", x.feed(49), 1);
    }

    private static void fault(String text, int place) {
        due.is("law " + text, Due.law(new DrownedLight(), text), place < 0 ? 1 : -100 - place);
    }

    private static void faults() {
        due.promise("7 law");
        fault("", 0);
        fault("1234", -1);
        fault("12345", 4);
        fault("0000", -1);
        fault("d;", 2);
        fault(";d", 0);
        fault("d;;d", 2);
        fault("d?", 2);
        fault("?d", 0);
        fault("d?p", -1);
        fault("d?p?o", 3);
        fault("d?p;o?n;a", -1);
        fault("(d?p)", 2);
        fault("(d;p)", 2);
        fault("d<p<o", 3);
        fault("d=p>o", 3);
        fault("(d<p)<o", -1);
        fault("d<(p<o)", -1);
        fault("d<p&o<n|a=l", -1);
        fault("d<p?o<n;a<l", -1);
        fault("d<p+1<o", 5);
        fault("d p", 1);
        fault("dp", 1);
        fault("1d", 1);
        fault("d1", 1);
        fault("x", 0);
        fault("D", 0);
        fault("d+", 2);
        fault("d+*p", 2);
        fault("d--p", -1);
        fault("d+!p", -1);
        fault("d!p", 1);
        fault("()", 1);
        fault("(d", 2);
        fault("d)", 1);
        fault("(d))", 3);
        fault("((((((d))))))", -1);
        fault("(((((((d)))))))", 6);
        fault("!!!!!!d", -1);
        fault("!!!!!!!d", 6);
        fault("------d", -1);
        fault("-------d", 6);
        fault("!(-(!(d", 7);
        fault("!(-(!(!d", 6);
        fault("!(-(!(d))))", 10);
        fault("!(-(!(d)))", -1);
        fault("(!d+(!d+(!d+(d))))", -1);
        fault("!d+!d+!d+!d+!d+!d+!d+!d", -1);
        fault("(((((!d+!d)))))", -1);
        fault("(((((!(d))))))", 6);
        fault("1?((((((d))))))", -1);
        fault("1?(((((((d", 8);
        fault("((((((d))))))?1;((((((d))))))?((((((d))))))", -1);
        fault("d\u00e9", 1);
        StringBuilder full = new StringBuilder("1");
        while (full.length() < 119) {
            full.append("+1");
        }
        fault(full.toString(), -1);
        fault(full + "+", 120);
        fault(full + "5", -1);
        fault(full + ")", 119);
        DrownedLight x = new DrownedLight();
        x.lost(0, 0);
        Due.law(x, "4");
        Due.law(x, "9+");
        due.is("a fault leaves the law before", x.draws(0), 4);
        due.is("and an empty tape", x.count(2), 0);
    }

    /** Each text of a few letters, against the plain model's reading. */
    private static void allShortTexts() {
        due.promise("7 law, short texts");
        String letters = "d1(!-<|?;)";
        DrownedLight x = new DrownedLight();
        for (int length = 0; length <= 5; length++) {
            int many = (int) Math.pow(letters.length(), length);
            for (int i = 0; i < many; i++) {
                StringBuilder text = new StringBuilder();
                for (int rest = i, k = 0; k < length; k++, rest /= letters.length()) {
                    text.append(letters.charAt(rest % letters.length()));
                }
                int fault = PlainModel.fault(text.toString());
                x = i % 60 == 0 ? new DrownedLight() : x;
                due.is("law " + text, Due.law(x, text.toString()), fault < 0 ? 1 : -100 - fault);
            }
        }
    }

    private static void draws() {
        due.promise("8 draws");
        DrownedLight x = new DrownedLight();
        due.is("nobody", x.draws(0), -1);
        due.is("-1", x.draws(-1), -1);
        x.lost(0, 0);
        for (int p = 0; p < 10; p++) {
            x.mend(0, 4, p);
            for (int o = 0; o < 10; o++) {
                x.mend(0, 2, o);
                due.is("deep " + p + ", owes " + o, x.draws(0), Math.max(0, 6 - p / 2 - o / 3));
            }
        }
        due.is("held below", law(x, "-5"), 0);
        due.is("held above", law(x, "10"), 9);
        due.is("he who is home is drawn, too", x.mend(0, 3, 1) + x.draws(0), 9);
    }

    private static int law(DrownedLight x, String text) {
        due.is(text, Due.law(x, text), 1);
        return x.draws(0);
    }

    private static void value(String text, int want) {
        DrownedLight x = new DrownedLight();
        x.lost(0, 0);
        due.is("draws by " + text, law(x, text), want);
    }

    private static void signs() {
        due.promise("8 draws, signs");
        value("7", 7);
        value("1+2*3", 7);
        value("(1+2)*3", 9);
        value("9-3-2", 4);
        value("8/2/2", 2);
        value("9%5%3", 1);
        value("7/2", 3);
        value("-7/2+9", 6);
        value("-7%4+9", 6);
        value("7/(0-2)+9", 6);
        value("5/0", 0);
        value("5%0+2", 2);
        value("3-5+4", 2);
        value("4--3", 7);
        value("-4+9", 5);
        value("--4", 4);
        value("!0*5", 5);
        value("!3*5", 0);
        value("!-0*5", 5);
        value("-!0+5", 4);
        value("!!7", 1);
        value("2<3", 1);
        value("3<3", 0);
        value("3=3", 1);
        value("3>2", 1);
        value("2>2", 0);
        value("2|0", 1);
        value("0|0", 0);
        value("2&3", 1);
        value("2&0", 0);
        value("1|0&0", 1);
        value("(1|0)&0", 0);
        value("1+1=2&3<4", 1);
        value("2<3+0&5", 1);
        value("5|5+2*3<1", 1);
        value("9999*9999*9999*9999*0+3", 3);
        // 9999^3 wraps to -1_207_871_393 or so: below 0
        value("9999*9999*9999<0", (9999 * 9999 * 9999 < 0) ? 1 : 0);
        value("9999*9999*43+9999*9999/0<0", 9999 * 9999 * 43 < 0 ? 1 : 0);
        // the least int by -1 is itself
        value("(1024*1024*2*1024)/(0-1)<0", 1);
        value("(1024*1024*2*1024)%(0-1)+4", 4);
        value("-(1024*1024*2*1024)<0", 1);
    }

    private static void names() {
        due.promise("8 draws, names");
        DrownedLight x = new DrownedLight();
        x.lost(18, 1);
        due.is("d", law(x, "d"), 2);
        x.mend(0, 0, 35);
        due.is("d straight", law(x, "d"), 1);
        x.mend(0, 6, 0);
        due.is("d from the corner", law(x, "d"), 7);
        x.mend(0, 6, 63);
        due.is("d from the far corner", law(x, "d"), 7);
        x.mend(35, 4, 7);
        due.is("p", law(x, "p"), 7);
        x.mend(0, 2, 8);
        due.is("o", law(x, "o"), 8);
        due.is("n", law(x, "n"), 0);
        x.lost(35, 1);
        x.lost(35, 2);
        x.lost(34, 1);
        due.is("n: two others here", law(x, "n"), 2);
        x.mend(1, 3, 1);
        due.is("n: one is home", law(x, "n"), 1);
        due.is("a: he is of his parish", law(x, "a"), 1);
        x.mend(2, 3, 1);
        due.is("a: not of his parish", law(x, "a"), 1);
        x.mend(3, 3, 1);
        due.is("a: wherever he is", law(x, "a"), 2);
        x.mend(0, 3, 1);
        due.is("a: he himself, if home", law(x, "a"), 3);
        x.mend(0, 7, 6);
        due.is("l", law(x, "l"), 6);
        x.oil(2);
        due.is("l then", x.draws(0), 8);
    }

    private static void lines() {
        due.promise("8 draws, lines");
        value("0?9;5", 5);
        value("2?9;5", 9);
        value("0-1?9;5", 9);
        value("0?9", 0);
        value("0?9;0?8", 0);
        value("0?9;1?8;7", 8);
        value("3;4", 3);
        value("0;4", 0);
        value("1?0;4", 0);
        value("0?9;6;1?3", 6);
        value("5/0?9;6", 6);
    }
}
