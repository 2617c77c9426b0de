/** The edges of promises 17 to 23, sentence by sentence: rules, shares, mistakes, turns, years drawn. */
public final class RulesEdgesTest {
    private static final Due due = new Due();
    private static final int MOST = Integer.MAX_VALUE, LEAST = Integer.MIN_VALUE;
    private static final int VOID = -2000000000;
    private static final long NO = Long.MIN_VALUE;

    public static void main(String[] args) {
        shelves();
        whatIsNoTwo();
        twentyTwos();
        toldTwice();
        order();
        rings();
        dropped();
        may();
        share();
        shareCut();
        ofTen();
        heard();
        turnsEdges();
        turnsWorth();
        turnsWays();
        drawnEdges();
        drawnYears();
        due.end();
    }

    private static DrownedLight with(int lost) {
        DrownedLight x = new DrownedLight();
        for (int i = 0; i < lost; i++) {
            x.lost(i, 0);
        }
        return x;
    }

    private static void refusedAll(DrownedLight x, String name, int shelf, int want) {
        due.is("order of " + name, x.order(shelf, 0), want);
        due.is("clash of " + name, x.clash(shelf, 0), want);
        due.is("drop of " + name, x.clash(shelf, 1), want);
        due.is("may of " + name, x.may(shelf, 0), want);
    }

    private static void shelves() {
        DrownedLight x = due.sentence("17 to 19: SHELVES 0 .. 5");
        x.lost(1, 0);
        for (int shelf : new int[] {-1, 6, LEAST, MOST}) {
            refusedAll(x, "shelf " + shelf, shelf, -1);
        }
        for (int shelf = 0; shelf < 6; shelf++) {
            x.row(shelf, 0, 0);
            due.is("order of " + shelf, x.order(shelf, 0), 0);
        }
        x = due.sentence("17 to 19: -11 nothing is there");
        x.lost(1, 0);
        refusedAll(x, "nothing", 5, -11);
        x = due.sentence("17 to 19: -12 no ROW of bytes");
        x.lost(1, 0);
        for (int sort = 1; sort < 5; sort++) {
            x.row(5, sort, 2);
            refusedAll(x, "sort " + sort, 5, -12);
        }
        x.body(0);
        x.keep(5, 0);
        refusedAll(x, "a NIGHT", 5, -12);
        x = due.sentence("17 to 19: BAD is named ahead of -11 and -12");
        x.lost(1, 0);
        x.row(1, 2, 2);
        for (int shelf = 0; shelf < 2; shelf++) {
            due.is("order k -1", x.order(shelf, -1), -1);
            due.is("clash what 2", x.clash(shelf, 2), -1);
            due.is("clash what -1", x.clash(shelf, -1), -1);
            due.is("may 2 of one", x.may(shelf, 2), -1);
            due.is("may -1", x.may(shelf, -1), -1);
        }
    }

    private static void whatIsNoTwo() {
        due.sentence("17 to 19: what is no two unlike ones is passed over");
        int[][] none = {{1, 1}, {2, 0}, {0, 2}, {-1, 0}, {0, -1}, {127, 0}, {0, -128}, {9, 9}};
        for (int[] two : none) {
            DrownedLight x = with(2);
            Due.bytes(x, 0, two[0], two[1], 1, 0);
            String name = two[0] + ", " + two[1];
            due.is("order behind " + name, x.order(0, 0), 1);
            due.is("clash behind " + name, x.clash(0, 0), -2);
            due.is("drop behind " + name, x.clash(0, 1), 0);
            due.is("may behind " + name, x.may(0, 0), 2);
        }
        DrownedLight x = due.sentence("17 to 19: by twos: an odd one at the end is none");
        x = with(2);
        Due.bytes(x, 0, 1);
        due.is("one byte", x.may(0, 0), 3);
        Due.bytes(x, 0, 1, 0, 0);
        due.is("three bytes", x.may(0, 0), 2);
        due.is("three bytes: no ring", x.clash(0, 0), -2);
        x = due.sentence("17 to 19: an empty ROW: no RULE");
        x = with(3);
        x.row(0, 0, 0);
        due.is("order", x.order(0, 2), 2);
        due.is("clash", x.clash(0, 0), -2);
        due.is("drop", x.clash(0, 1), 0);
        due.is("may", x.may(0, 0), 7);
        x = due.sentence("17 to 19: nobody is lost: each two is passed over");
        Due.bytes(x, 0, 0, 1, 1, 0);
        due.is("order", x.order(0, 0), -2);
        due.is("clash", x.clash(0, 0), -2);
        due.is("drop", x.clash(0, 1), 0);
        due.is("may", x.may(0, 0), 0);
        due.is("may 1", x.may(0, 1), -1);
    }

    private static void twentyTwos() {
        DrownedLight x = due.sentence("17 to 19: 20 twos at most count");
        x = with(3);
        x.row(0, 0, 60);
        for (int i = 0; i < 60; i += 2) {
            x.put(0, i, 0);
            x.put(0, i + 1, 1);
        }
        x.put(0, 38, 2);
        x.put(0, 39, 0);
        due.is("the 20th does", x.order(0, 0), 2);
        x.put(0, 38, 0);
        x.put(0, 39, 1);
        x.put(0, 40, 2);
        x.put(0, 41, 0);
        due.is("the 21st does not", x.order(0, 0), 0);
        due.is("nor for may", x.may(0, 0), 5);
        x.put(0, 40, 1);
        due.is("nor for a ring", x.clash(0, 0), -2);
        due.is("nor for a drop", x.clash(0, 1), 0);
        x = due.sentence("17 to 19: what is passed over is none of the 20");
        x = with(3);
        x.row(0, 0, 60);
        for (int i = 20; i < 58; i += 2) {
            x.put(0, i + 1, 1);
        }
        x.put(0, 58, 1);
        due.is("behind ten that are passed over, the 20th", x.clash(0, 0), 2);
        due.is("one is dropped", x.clash(0, 1), 1);
    }

    private static void toldTwice() {
        DrownedLight x = due.sentence("18: one told twice counts twice");
        x = with(2);
        Due.bytes(x, 0, 0, 1, 0, 1, 1, 0);
        due.is("the single one is dropped", x.clash(0, 1), 1);
        Due.bytes(x, 0, 0, 1, 0, 1, 1, 0, 1, 0);
        due.is("two and two", x.clash(0, 1), 2);
        Due.bytes(x, 0, 0, 1, 0, 1, 0, 1, 1, 0, 1, 0, 1, 0);
        due.is("three and three", x.clash(0, 1), 3);
        due.is("the ring is of two all the same", x.clash(0, 0), 2);
        x = due.sentence("18: ten and ten: 20 RULES");
        x = with(2);
        x.row(0, 0, 40);
        for (int i = 0; i < 40; i += 2) {
            x.put(0, i + (i < 20 ? 1 : 0), 1);
        }
        due.is("ten are dropped", x.clash(0, 1), 10);
    }

    private static void order() {
        DrownedLight x = due.sentence("17: k: BAD below 0; NOT: there are not as many");
        x = with(3);
        x.row(0, 0, 0);
        due.is("-1", x.order(0, -1), -1);
        due.is("least", x.order(0, LEAST), -1);
        due.is("the last", x.order(0, 2), 2);
        due.is("3", x.order(0, 3), -2);
        due.is("most", x.order(0, MOST), -2);
        x = due.sentence("17: of such the least number each time");
        x = with(4);
        Due.bytes(x, 0, 3, 0);
        int[] want = {1, 2, 3, 0};
        for (int k = 0; k < 4; k++) {
            due.is("order " + k, x.order(0, k), want[k]);
        }
        Due.bytes(x, 0, 2, 0, 0, 1);
        want = new int[] {2, 0, 1, 3};
        for (int k = 0; k < 4; k++) {
            due.is("order " + k, x.order(0, k), want[k]);
        }
        x = due.sentence("17: NOT: they go round");
        x = with(4);
        Due.bytes(x, 0, 2, 3, 3, 2);
        for (int k = 0; k < 4; k++) {
            due.is("order " + k, x.order(0, k), -2);
        }
        x = due.sentence("17: of all LOST ones, who is HOME, too");
        x = with(10);
        x.mend(9, 3, 1);
        Due.bytes(x, 0, 9, 0);
        due.is("the last", x.order(0, 9), 0);
        due.is("the last but one", x.order(0, 8), 9);
    }

    private static void rings() {
        DrownedLight x = due.sentence("18: what 0, 1");
        x = with(2);
        Due.bytes(x, 0, 0, 1, 1, 0);
        for (int what : new int[] {-1, 2, LEAST, MOST}) {
            due.is("clash what " + what, x.clash(0, what), -1);
        }
        due.is("0", x.clash(0, 0), 2);
        due.is("1", x.clash(0, 1), 1);
        x = due.sentence("18: the smallest ring; NOT");
        x = with(10);
        Due.bytes(x, 0, 0, 1, 1, 2, 0, 2);
        due.is("no ring", x.clash(0, 0), -2);
        for (int many = 2; many < 11; many++) {
            x.row(0, 0, 2 * many);
            for (int i = 0; i < many; i++) {
                x.put(0, 2 * i, 9 - i);
                x.put(0, 2 * i + 1, 9 - (i + 1) % many);
            }
            due.is("a ring of " + many, x.clash(0, 0), many);
            due.is("one is dropped of " + many, x.clash(0, 1), 1);
        }
        Due.bytes(x, 0, 0, 1, 1, 2, 2, 3, 3, 0, 4, 5, 5, 6, 6, 4);
        due.is("of four and three", x.clash(0, 0), 3);
        Due.bytes(x, 0, 0, 1, 1, 2, 2, 3, 3, 0, 2, 0);
        due.is("one inside the other", x.clash(0, 0), 3);
    }

    private static void dropped() {
        DrownedLight x = due.sentence("18: DROP: the fewest RULES that, dropped, let all come in an order");
        x = with(10);
        Due.bytes(x, 0, 0, 1, 1, 2, 2, 3, 3, 0, 4, 5, 5, 6, 6, 4);
        due.is("of two rings two", x.clash(0, 1), 2);
        Due.bytes(x, 0, 0, 1, 1, 2, 2, 0, 1, 3, 3, 0, 1, 4, 4, 0);
        due.is("one that is in three rings", x.clash(0, 1), 1);
        Due.bytes(x, 0, 0, 1, 1, 0, 2, 3, 3, 2, 4, 5, 5, 4, 6, 7, 7, 6, 8, 9, 9, 8);
        due.is("five pairs", x.clash(0, 1), 5);
        Due.bytes(x, 0, 0, 9, 1, 8, 2, 7);
        due.is("none", x.clash(0, 1), 0);
        x.row(0, 0, 24);
        int at = 0;
        for (int i = 0; i < 4; i++) {
            for (int j = 0; j < 4; j++) {
                if (i != j) {
                    x.put(0, at++, i);
                    x.put(0, at++, j);
                }
            }
        }
        due.is("each behind each other of four", x.clash(0, 1), 6);
    }

    private static void may() {
        DrownedLight x = due.sentence("19: came: bits of LOST ones");
        x = with(10);
        x.row(0, 0, 0);
        for (int came : new int[] {-1, 1024, LEAST, MOST}) {
            due.is("may " + came, x.may(0, came), -1);
        }
        due.is("none came", x.may(0, 0), 1023);
        due.is("all came", x.may(0, 1023), 0);
        due.is("all but the last", x.may(0, 511), 512);
        x = due.sentence("19: who may come next: all ahead of whom have");
        x = with(3);
        Due.bytes(x, 0, 0, 2, 1, 2);
        int[] want = {3, 2, 1, 4, 3, 2, 1, 0};
        for (int came = 0; came < 8; came++) {
            due.is("may " + came, x.may(0, came), want[came]);
        }
        due.is("8 of three", x.may(0, 8), -1);
    }

    private static void share() {
        DrownedLight x = due.sentence("20: PARISH 0 .. 3");
        for (int parish = 0; parish < 4; parish++) {
            x.lost(1, parish);
        }
        for (int parish : new int[] {-1, 4, LEAST, MOST}) {
            due.is("parish " + parish, x.share(parish, 8), -1);
        }
        for (int parish = 0; parish < 4; parish++) {
            due.is("parish " + parish, x.share(parish, 8), 2);
        }
        x = due.sentence("20: v (0 .. 9999)");
        x.lost(1, 2);
        for (int v : new int[] {-1, 10000, LEAST, MOST}) {
            due.is("v " + v, x.share(2, v), -1);
        }
        due.is("0", x.share(2, 0), 0);
        due.is("9999", x.share(2, 9999), 9999);
        x = due.sentence("20: none: 0");
        due.is("nobody is lost", x.share(0, 9999), 0);
        x.lost(1, 0);
        x.mend(0, 2, 9);
        x.mend(0, 3, 1);
        due.is("all are HOME", x.share(0, 9999), 0);
    }

    private static void shareCut() {
        DrownedLight x = due.sentence("20: what those OWED by 3 (cut, of all of a PARISH together)");
        x.lost(1, 1);
        x.lost(2, 2);
        x.lost(3, 2);
        // PARISH 2 numbers 2 and what it OWED by 3; PARISH 1 numbers 1
        int[][] owed = {{0, 0}, {1, 1}, {2, 0}, {1, 2}, {3, 0}, {2, 2}, {3, 2}, {4, 2}, {9, 9}, {9, 8}};
        int[] claims = {2, 2, 2, 3, 3, 3, 3, 4, 8, 7};
        for (int i = 0; i < owed.length; i++) {
            x.mend(1, 2, owed[i][0]);
            x.mend(2, 2, owed[i][1]);
            due.is("OWED " + owed[i][0] + " and " + owed[i][1], x.share(2, 1000), 1000 * claims[i] / (claims[i] + 1));
            due.is("the other's", x.share(1, 1000), 1000 / (claims[i] + 1));
        }
        x = due.sentence("20: LOST ones who are not HOME");
        x.lost(1, 0);
        x.lost(2, 0);
        x.lost(3, 3);
        x.mend(0, 2, 9);
        due.is("5 of 6", x.share(0, 60), 50);
        x.mend(0, 3, 1);
        due.is("1 of 2", x.share(0, 60), 30);
        x.mend(1, 3, 1);
        due.is("none of 1", x.share(0, 60), 0);
        due.is("all of it", x.share(3, 60), 60);
        x = due.sentence("20: by all (cut)");
        x.lost(1, 0);
        x.lost(1, 1);
        x.lost(1, 2);
        due.is("2 by 3", x.share(0, 2), 0);
        due.is("3 by 3", x.share(1, 3), 1);
        due.is("5 by 3", x.share(2, 5), 1);
    }

    private static void ofTen() {
        DrownedLight x = due.sentence("20: of ten LOST ones");
        for (int i = 0; i < 10; i++) {
            x.lost(i, i % 4);
            x.mend(i, 2, 9);
        }
        // PARISHES 0 and 1 number 3 and OWED 27 by 3, PARISHES 2 and 3 number 2 and OWED 18 by 3
        int[] claims = {12, 12, 8, 8};
        for (int parish = 0; parish < 4; parish++) {
            due.is("parish " + parish, x.share(parish, 9999), 9999 * claims[parish] / 40);
        }
        x = due.sentence("23: of ten LOST ones");
        for (int i = 0; i < 10; i++) {
            x.lost(i, 0);
            x.mend(i, 3, i % 2);
        }
        due.is("all", x.drawn(1, 300112, -1), 150);
        due.is("the last", x.drawn(1, 300112, 9), 30);
        due.is("the last but one", x.drawn(1, 300112, 8), 0);
        due.is("no eleventh", x.drawn(1, 300112, 10), -1);
    }

    private static void heard() {
        DrownedLight x = due.sentence("21: WAY 0 .. 3, part 0 above, 1 below the line");
        for (int v : new int[] {-1, 4, LEAST, MOST}) {
            due.is("way " + v, x.heard(v, 0), NO);
        }
        for (int v : new int[] {-1, 2, LEAST, MOST}) {
            due.is("part " + v, x.heard(0, v), NO);
        }
        x = due.sentence("21: a fraction in lowest terms");
        // from 18 up it is seen from 0 .. 4 and 9 .. 11: eight CELLS
        x.mend(0, 6, 18);
        int[] cells = {0, 1, 2, 3, 4, 9, 10, 11};
        int[][] want = {{1, 1}, {7, 8}, {3, 4}, {5, 8}, {1, 2}, {3, 8}, {1, 4}, {1, 8}, {0, 1}};
        for (int deep = 0; deep < 9; deep++) {
            due.is("above, deep " + deep, x.heard(0, 0), want[deep][0]);
            due.is("below, deep " + deep, x.heard(0, 1), want[deep][1]);
            if (deep < 8) {
                x.mend(cells[deep], 4, deep + 1);
            }
        }
        x = due.sentence("21: of all CELLS it is seen from, not of others");
        x.mend(0, 6, 9);
        x.mend(9, 4, 5);
        x.mend(3, 4, 5);
        due.is("above", x.heard(0, 0), 1);
        due.is("below", x.heard(0, 1), 1);
        x.mend(2, 4, 1);
        due.is("two", x.heard(0, 0), 2);
        due.is("of three", x.heard(0, 1), 3);
        x = due.sentence("21: seen from no CELL: 0 in lowest terms");
        x.mend(0, 6, 7);
        due.is("above", x.heard(0, 0), 0);
        due.is("below", x.heard(0, 1), 1);
        due.is("to the right, above", x.heard(1, 0), 0);
        due.is("to the right, below", x.heard(1, 1), 1);
    }

    private static void turnsEdges() {
        DrownedLight x = due.sentence("22: PARISH 0 .. 3, n (1 .. 4), what 0, 1: VOID");
        for (int v : new int[] {-1, 4, LEAST, MOST}) {
            due.is("parish " + v, x.byTurns(v, 1, 0), VOID);
        }
        for (int v : new int[] {0, -1, 5, LEAST, MOST}) {
            due.is("n " + v, x.byTurns(0, v, 0), VOID);
        }
        for (int v : new int[] {-1, 2, LEAST, MOST}) {
            due.is("what " + v, x.byTurns(0, 1, v), VOID);
        }
        for (int n = 1; n < 5; n++) {
            due.is("nobody in " + n, x.byTurns(3, n, 0), 0);
            due.is("nobody in " + n + ", the WAY", x.byTurns(0, n, 1), 4);
        }
        x = due.sentence("22: all less twice those of PARISH q who are not");
        for (int i = 0; i < 10; i++) {
            x.lost(0, 2);
        }
        due.is("ten of it", x.byTurns(2, 4, 0), -20);
        due.is("ten of another", x.byTurns(1, 4, 0), 0);
        for (int i = 0; i < 10; i++) {
            x.mend(i, 3, 1);
        }
        due.is("ten HOME", x.byTurns(2, 4, 0), 10);
        x.mend(9, 3, 0);
        due.is("nine HOME, one of it not", x.byTurns(2, 4, 0), 7);
        due.is("nine HOME, one of another not", x.byTurns(1, 4, 0), 9);
    }

    private static void turnsWorth() {
        DrownedLight x = due.sentence("22: the keeper first, then the widows by turns");
        Due.lost(x, 25);
        // two steps: the keeper has the nights 1 and 3, the widows 2 and 4
        due.is("one night is too few", x.byTurns(0, 1, 0), -2);
        due.is("of two the widows have the second", x.byTurns(0, 2, 0), -2);
        due.is("of three the keeper has two", x.byTurns(0, 3, 0), 1);
        due.is("of four, too", x.byTurns(0, 4, 0), 1);
        x = due.sentence("22: (the widows want it least): they burn OIL that the keeper needs");
        Due.lost(x, 25);
        x.mend(0, 7, 6);
        due.is("of PARISH 0", x.byTurns(0, 3, 0), -2);
        due.is("of PARISH 1: by one alone", x.byTurns(1, 3, 0), 0);
        x.mend(0, 7, 9);
        due.is("OIL for three: of PARISH 0", x.byTurns(0, 3, 0), 1);
        due.is("OIL for three: of PARISH 1", x.byTurns(1, 3, 0), 1);
        x = due.sentence("22: (the widows want it least): they light one off the way on which he drifts home");
        Due.lost(x, 17);
        x.mend(17, 5, 1);
        x.mend(18, 5, 2);
        x.mend(26, 5, 1);
        x.mend(19, 5, 0);
        x.mend(0, 7, 0);
        due.is("without OIL he drifts home in three", x.byTurns(0, 3, 0), 1);
        due.is("none is needed: 4", x.byTurns(0, 3, 1), 4);
        x.mend(0, 7, 3);
        due.is("OIL for one night: the keeper burns it ahead of them", x.byTurns(0, 3, 0), 1);
        due.is("by the least WAY, not by 4", x.byTurns(0, 3, 1), 0);
        x.mend(0, 7, 6);
        due.is("OIL for two nights: he keeps his for the third", x.byTurns(0, 3, 0), 1);
        due.is("so the first is not lit", x.byTurns(0, 3, 1), 4);
        x.mend(19, 5, 3);
        x.mend(19, 4, 9);
        due.is("if 19 is too deep to walk from, they hold him off", x.byTurns(0, 3, 0), -2);
    }

    private static void turnsWays() {
        DrownedLight x = due.sentence("22: the keeper's first WAY (of like ones 4 first, then the least)");
        Due.lost(x, 0);
        due.is("no WAY helps: 4", x.byTurns(0, 1, 1), 4);
        x.mend(0, 0, 18);
        x.mend(18, 5, 1);
        x.mend(19, 5, 2);
        due.is("by drift all are alike: 4", x.byTurns(0, 2, 1), 4);
        x = due.sentence("22: then the least");
        Due.lost(x, 18);
        due.is("up and left are alike: up", x.byTurns(0, 3, 1), 0);
        x.mend(0, 0, 20);
        due.is("up and right are alike: up", x.byTurns(0, 3, 1), 0);
        x.mend(0, 0, 36);
        due.is("right and down are alike: right", x.byTurns(0, 3, 1), 1);
        x.mend(0, 0, 34);
        due.is("down and left are alike: down", x.byTurns(0, 3, 1), 2);
        int[] near = {19, 28, 35, 26};
        for (int way = 0; way < 4; way++) {
            x.mend(0, 0, near[way]);
            due.is("one WAY alone", x.byTurns(0, 1, 1), way);
        }
    }

    private static void drawnEdges() {
        DrownedLight x = due.sentence("23: n years (1 .. 30) of m nights (1 .. 30), FOG (0 .. 12)");
        x.lost(0, 0);
        x.mend(0, 3, 1);
        int[][] bad = {{0, 1, 0}, {31, 1, 0}, {1, 0, 0}, {1, 31, 0}, {1, 1, 13}, {0, 0, 0}, {30, 30, 13}, {31, 30, 12}, {1, 99, 0},
            {1, 1, 99}, {-1, 1, 0}};
        for (int[] b : bad) {
            int nmf = 10000 * b[0] + 100 * b[1] + b[2];
            due.is("nmf " + nmf, x.drawn(7, nmf, -1), -1);
        }
        due.is("least", x.drawn(7, LEAST, -1), -1);
        due.is("most", x.drawn(7, MOST, -1), -1);
        due.is("-1", x.drawn(7, -1, -1), -1);
        due.is("less 10101", x.drawn(7, -10101, -1), -1);
        due.is("1 of 1", x.drawn(7, 10100, -1), 1);
        due.is("1 of 1, FOG 12", x.drawn(7, 10112, -1), 1);
        due.is("30 of 30", x.drawn(7, 303000, -1), 30);
        due.is("30 of 30, FOG 12", x.drawn(7, 303012, -1), 30);
        due.is("30 of 1", x.drawn(7, 300100, -1), 30);
        due.is("1 of 30", x.drawn(7, 13000, -1), 1);
        x = due.sentence("23: all (lost -1), one; BAD: no such one");
        due.is("nobody: all", x.drawn(7, 10100, -1), 0);
        due.is("nobody: one", x.drawn(7, 10100, 0), -1);
        Due.lost(x, 0, 0);
        x.mend(1, 3, 1);
        for (int one : new int[] {-2, 2, LEAST, MOST}) {
            due.is("lost " + one, x.drawn(7, 10100, one), -1);
        }
        due.is("the first", x.drawn(7, 50100, 0), 0);
        due.is("the last", x.drawn(7, 50100, 1), 5);
        due.is("all", x.drawn(7, 50100, -1), 5);
    }

    /** The next z, reckoned in longs. */
    private static long next(long z) {
        return (z * 1103515245L + 12345L) & 0xffffffffL;
    }

    private static void drawnYears() {
        due.sentence("23: z wraps; WAY (z >>> 8) % 4, or 4, if (z >>> 16) % 12 is below FOG");
        int[] near = {19, 28, 35, 26};
        for (int seed : new int[] {0, 1, -1, 77, LEAST, MOST, 123456789, -987654321}) {
            for (int fog : new int[] {0, 1, 5, 11, 12}) {
                DrownedLight x = new DrownedLight();
                Due.lost(x, near);
                int[] fetched = new int[5];
                long z = seed & 0xffffffffL;
                for (int year = 0; year < 30; year++) {
                    z = next(z);
                    fetched[(z >> 16) % 12 < fog ? 4 : (int) ((z >> 8) % 4)]++;
                }
                for (int way = 0; way < 4; way++) {
                    due.is("seed " + seed + ", FOG " + fog + ", WAY " + way, x.drawn(seed, 300100 + fog, way), fetched[way]);
                }
                due.is("seed " + seed + ", FOG " + fog + ", all", x.drawn(seed, 300100 + fog, -1), 30 - fetched[4]);
            }
        }
        DrownedLight x = due.sentence("23: FOG 0: never 4; FOG 12: always");
        Due.lost(x, 19, 28, 35, 26);
        due.is("FOG 0: one each year", x.drawn(3, 300100, -1), 30);
        due.is("FOG 12: none", x.drawn(3, 300112, -1), 0);
        due.is("FOG 12, many nights: none", x.drawn(3, 303012, -1), 0);
        x = due.sentence("23: each year from now, the SEED goes on");
        Due.lost(x, 26);
        x.mend(0, 7, 3);
        int want = 0;
        long z = 5;
        for (int year = 0; year < 20; year++) {
            boolean isHome = false;
            boolean hasOil = true;
            for (int night = 0; night < 3; night++) {
                z = next(z);
                int way = (z >> 16) % 12 < 6 ? 4 : (int) ((z >> 8) % 4);
                isHome |= hasOil && way == 3;
                hasOil &= way == 4;
            }
            want += isHome ? 1 : 0;
        }
        due.is("years in which the first light is turned left", x.drawn(5, 200306, 0), want);
    }
}
