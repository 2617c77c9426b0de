/** The edges of promises 1 to 5 and 9, sentence by sentence: a new object, the lost, the sea, where it is seen. */
public final class SeaEdgesTest {
    private static final Due due = new Due();
    private static final int MOST = Integer.MAX_VALUE, LEAST = Integer.MIN_VALUE;
    private static final long NO = Long.MIN_VALUE;

    public static void main(String[] args) {
        newObject();
        lostOnes();
        lostsFromARow();
        lostsEnd();
        mendRanges();
        mendNumbers();
        mendAlone();
        of();
        seenEdges();
        seenCells();
        due.end();
    }

    private static void newObject() {
        DrownedLight x = due.sentence("1: DEPTH 0 at first, DRIFT 4 at first");
        for (int cell = 0; cell < 64; cell++) {
            due.is("of(" + cell + ", 4)", x.of(cell, 4), 0);
            due.is("of(" + cell + ", 5)", x.of(cell, 5), 4);
        }
        x = due.sentence("1: THE LAMP in CELL 27, OIL 50, BURNS 3, WALKS 3 at first");
        due.is("lamp", x.of(0, 6), 27);
        due.is("oil", x.of(0, 7), 50);
        due.is("burns", x.of(0, 8), 3);
        due.is("walks", x.of(0, 9), 3);
        x = due.sentence("1: nobody lost");
        for (int what = 0; what < 4; what++) {
            due.is("of(0, " + what + ")", x.of(0, what), -1);
            due.is("mend(0, " + what + ", 0)", x.mend(0, what, 0), -1);
        }
        due.is("count(0)", x.count(0), 0);
        due.is("the first one's number", x.lost(1, 1), 0);
        x = due.sentence("1: SHELVES hold nothing at first");
        for (int shelf = 0; shelf < 6; shelf++) {
            due.is("put in " + shelf, x.put(shelf, 0, 1), -11);
            due.is("taken from " + shelf, x.taken(shelf, 0), -11);
        }
        x = due.sentence("1: nothing was led, fed, kept, changed, acted");
        for (int what = 0; what < 5; what++) {
            due.is("led(" + what + ")", x.led(what), 0);
        }
        for (int what = 0; what < 6; what++) {
            due.is("count(" + what + ")", x.count(what), 0);
        }
        due.is("back", x.back(), -5);
        due.is("undo", x.undo(), -5);
        due.is("redo", x.redo(), -5);
        due.is("trace", x.trace(0), -1);
        due.is("the first body", x.body(0), 0);
        x = due.sentence("1: each object has a sea of its own");
        String blank = Due.portrait(x);
        DrownedLight busy = Due.busy();
        due.is("the other one beside it", Due.portrait(x), blank);
        due.is("one made behind it", Due.portrait(new DrownedLight()), blank);
        due.is("the busy one is another", Due.portrait(busy).equals(blank) ? 1 : 0, 0);
    }

    private static void lostOnes() {
        DrownedLight x = due.sentence("2: CELLS 0 .. 63");
        due.is("-1", x.lost(-1, 0), -1);
        due.is("64", x.lost(64, 0), -1);
        due.is("least", x.lost(LEAST, 0), -1);
        due.is("most", x.lost(MOST, 0), -1);
        due.is("0", x.lost(0, 0), 0);
        due.is("63", x.lost(63, 0), 1);
        due.is("is in 0", x.of(0, 0), 0);
        due.is("is in 63", x.of(1, 0), 63);
        x = due.sentence("2: PARISH 0 .. 3");
        due.is("-1", x.lost(5, -1), -1);
        due.is("4", x.lost(5, 4), -1);
        due.is("least", x.lost(5, LEAST), -1);
        due.is("most", x.lost(5, MOST), -1);
        due.is("0", x.lost(5, 0), 0);
        due.is("3", x.lost(5, 3), 1);
        due.is("is of 0", x.of(0, 1), 0);
        due.is("is of 3", x.of(1, 1), 3);
        x = due.sentence("2: FULL: 10");
        for (int i = 0; i < 10; i++) {
            due.is("number", x.lost(i, 0), i);
        }
        due.is("the 11th", x.lost(0, 0), -3);
        due.is("the 12th", x.lost(63, 3), -3);
        due.is("they are 10", x.count(0), 10);
        due.is("there is no 10", x.of(10, 0), -1);
        due.is("BAD is named first: cell", x.lost(64, 0), -1);
        due.is("BAD is named first: parish", x.lost(0, 4), -1);
        x = due.sentence("2: OWED 0, HOME 0 at first, in THE LAMP's CELL, too");
        x.lost(27, 2);
        due.is("owed", x.of(0, 2), 0);
        due.is("home", x.of(0, 3), 0);
        x = due.sentence("2: refused, nothing changes");
        x = Due.busy();
        String before = Due.portrait(x);
        x.lost(-1, 0);
        x.lost(0, 4);
        due.is("as before", Due.portrait(x), before);
        due.is("the next number", x.lost(0, 0), 2);
    }

    private static void lostsFromARow() {
        DrownedLight x = due.sentence("3: n (1 .. 10)");
        x.row(0, 0, 60);
        due.is("0", x.losts(0, 0, 0), -1);
        due.is("-1", x.losts(0, 0, -1), -1);
        due.is("11", x.losts(0, 0, 11), -1);
        due.is("least", x.losts(0, 0, LEAST), -1);
        due.is("most", x.losts(0, 0, MOST), -1);
        due.is("nobody came", x.count(0), 0);
        due.is("1", x.losts(0, 0, 1), 1);
        due.is("10, of which nine go in", x.losts(0, 0, 10), 9);
        x = due.sentence("3: n (1 .. 10): all ten");
        x.row(0, 0, 30);
        due.is("10", x.losts(0, 0, 10), 10);
        due.is("they are ten", x.count(0), 10);
        x = due.sentence("3: SHELVES 0 .. 5");
        due.is("-1", x.losts(-1, 0, 1), -1);
        due.is("6", x.losts(6, 0, 1), -1);
        for (int shelf = 0; shelf < 6; shelf++) {
            x.row(shelf, 0, 3);
            due.is("shelf " + shelf, x.losts(shelf, 0, 1), 1);
        }
        x = due.sentence("3: a SHELF that holds nothing is missing: none came");
        due.is("at first", x.losts(0, 0, 1), 0);
        x.row(0, 2, 3);
        x.keep(0, -1);
        due.is("again", x.losts(0, 0, 10), 0);
        x = due.sentence("3: -12 (no ROW of bytes)");
        for (int sort = 1; sort < 5; sort++) {
            x.row(0, sort, 3);
            due.is("sort " + sort, x.losts(0, 0, 1), -12);
            due.is("BAD is named first in sort " + sort, x.losts(0, 0, 0), -1);
        }
        x.body(6);
        x.keep(0, 0);
        due.is("a NIGHT", x.losts(0, 0, 1), -12);
        due.is("nobody came", x.count(0), 0);
        x = due.sentence("3: by threes CELL, PARISH, OWED, from place i on");
        Due.bytes(x, 0, 9, 63, 3, 9, 0, 0, 0);
        due.is("from 1 on", x.losts(0, 1, 2), 2);
        int[][] want = {{63, 3, 9, 0}, {0, 0, 0, 0}};
        for (int one = 0; one < 2; one++) {
            for (int what = 0; what < 4; what++) {
                due.is("of(" + one + ", " + what + ")", x.of(one, what), want[one][what]);
            }
        }
        due.is("no change that may be undone", x.count(3), 0);
        x = due.sentence("3: n of them, though the row goes on");
        x.row(0, 0, 12);
        due.is("two", x.losts(0, 0, 2), 2);
        due.is("came", x.count(0), 2);
    }

    private static void lostsEnd() {
        DrownedLight x = due.sentence("3: it ends where the row ends (within a three, too)");
        int[] want = {0, 0, 0, 1, 1, 1, 2};
        for (int length = 0; length < 7; length++) {
            x = new DrownedLight();
            x.row(0, 0, length);
            due.is("length " + length, x.losts(0, 0, 10), want[length]);
            due.is("came of length " + length, x.count(0), want[length]);
        }
        x = due.sentence("3: it ends at a place that is not in the row");
        x.row(0, 0, 6);
        due.is("from 3", x.losts(0, 3, 10), 1);
        due.is("from 4", x.losts(0, 4, 10), 0);
        due.is("from 5", x.losts(0, 5, 10), 0);
        due.is("from 6", x.losts(0, 6, 10), 0);
        due.is("from 7", x.losts(0, 7, 10), 0);
        due.is("from most", x.losts(0, MOST, 10), 0);
        due.is("from most less 1", x.losts(0, MOST - 1, 10), 0);
        due.is("from -1", x.losts(0, -1, 10), 0);
        due.is("from -3", x.losts(0, -3, 10), 0);
        due.is("from least", x.losts(0, LEAST, 10), 0);
        due.is("one came", x.count(0), 1);
        x = due.sentence("3: it ends where one is not so: those ahead came, those behind did not");
        int[][] wrong = {{64, 0, 0}, {-1, 0, 0}, {128, 0, 0}, {127, 0, 0}, {0, 4, 0}, {0, -1, 0}, {0, 0, 10}, {0, 0, -1}};
        for (int[] w : wrong) {
            x = new DrownedLight();
            Due.bytes(x, 0, 7, 1, 2, w[0], w[1], w[2], 8, 1, 2);
            String name = w[0] + ", " + w[1] + ", " + w[2];
            due.is(name, x.losts(0, 0, 3), 1);
            due.is("came ahead of " + name, x.count(0), 1);
            due.is("from " + name + " on", x.losts(0, 3, 3), 0);
        }
        x = due.sentence("3: it ends where they are FULL");
        Due.lost(x, 1, 2, 3, 4, 5, 6, 7, 8);
        x.row(0, 0, 60);
        due.is("two of five", x.losts(0, 0, 5), 2);
        due.is("none of five", x.losts(0, 0, 5), 0);
        due.is("they are ten", x.count(0), 10);
        x = due.sentence("3: refused, nothing changes");
        x = Due.busy();
        String before = Due.portrait(x);
        x.losts(6, 0, 1);
        x.losts(1, 0, 11);
        x.losts(2, 0, 1);
        x.losts(0, 0, 1);
        due.is("as before", Due.portrait(x), before);
    }

    private static final int[] LOWEST = {0, 0, 0, 0, 0, 0, 0, 0, 1, 1};
    private static final int[] HIGHEST = {63, 3, 9, 1, 9, 4, 63, 999, 9, 9};
    /** As they are at first; a LOST one's CELL is 9 where these are asked for. */
    private static final int[] FIRST = {9, 0, 0, 0, 0, 4, 27, 50, 3, 3};
    private static final String[] NAMES = {"CELL 0 .. 63", "PARISH 0 .. 3", "OWED 0 .. 9", "HOME 0, 1", "DEPTH 0 .. 9",
        "DRIFT 0 .. 4", "THE LAMP's CELL 0 .. 63", "OIL 0 .. 999", "BURNS 1 .. 9", "WALKS 1 .. 9"};

    private static void mendRanges() {
        for (int what = 0; what < 10; what++) {
            DrownedLight x = due.sentence("4: " + NAMES[what]);
            x.lost(5, 1);
            int was = x.of(0, what);
            due.is("below", x.mend(0, what, LOWEST[what] - 1), -1);
            due.is("above", x.mend(0, what, HIGHEST[what] + 1), -1);
            due.is("least", x.mend(0, what, LEAST), -1);
            due.is("most", x.mend(0, what, MOST), -1);
            due.is("is as it was", x.of(0, what), was);
            due.is("no change to be undone", x.count(3), 0);
            for (int v = LOWEST[what]; v <= Math.min(HIGHEST[what], 100); v++) {
                due.is("becomes " + v + ", was", x.mend(0, what, v), was);
                due.is("is " + v, x.of(0, what), v);
                was = v;
            }
            due.is("becomes the highest, was", x.mend(0, what, HIGHEST[what]), was);
            due.is("is the highest", x.of(0, what), HIGHEST[what]);
        }
    }

    private static void mendNumbers() {
        for (int what = 0; what < 10; what++) {
            DrownedLight x = due.sentence("4: numbers of " + NAMES[what]);
            Due.lost(x, 9, 9, 9);
            int numbers = what < 4 ? 3 : what < 6 ? 64 : 1;
            for (int number : new int[] {-1, LEAST, numbers, numbers + 1, MOST}) {
                due.is("mend " + number, x.mend(number, what, 1), -1);
                due.is("of " + number, x.of(number, what), -1);
            }
            int[] there = what < 4 ? new int[] {0, 1, 2} : what < 6 ? new int[] {0, 31, 63} : new int[] {0};
            for (int number : there) {
                due.is("mend " + number, x.mend(number, what, 1), FIRST[what]);
                due.is("of " + number, x.of(number, what), 1);
            }
        }
        DrownedLight x = due.sentence("4: what (0 to 9)");
        x.lost(9, 0);
        for (int what : new int[] {-1, 10, LEAST, MOST}) {
            due.is("mend what " + what, x.mend(0, what, 1), -1);
            due.is("of what " + what, x.of(0, what), -1);
        }
        x = due.sentence("4: refused, nothing changes");
        x = Due.busy();
        String before = Due.portrait(x);
        x.mend(2, 0, 1);
        x.mend(0, 1, 4);
        x.mend(64, 4, 1);
        x.mend(1, 7, 1);
        x.mend(0, 10, 1);
        due.is("as before", Due.portrait(x), before);
        due.is("what was undone may be done again", x.redo(), 0);
    }

    private static void mendAlone() {
        for (int what = 0; what < 10; what++) {
            DrownedLight x = due.sentence("4: " + NAMES[what] + " becomes v, and nothing else");
            Due.lost(x, 9, 10, 11);
            int number = what < 6 ? 1 : 0;
            int v = what == 3 ? 1 : 2;
            x.mend(number, what, v);
            for (int other = 0; other < 6; other++) {
                for (int i = 0; i < 3; i++) {
                    int was = other == 0 ? 9 + i : FIRST[other];
                    due.is("of(" + i + ", " + other + ")", x.of(i, other), i == number && other == what ? v : was);
                }
            }
            for (int other = 6; other < 10; other++) {
                due.is("of(0, " + other + ")", x.of(0, other), other == what ? v : FIRST[other]);
            }
        }
        DrownedLight x = due.sentence("4: HOME of one, told 0 and 1, leaves the others");
        Due.lost(x, 9, 10, 11);
        x.mend(0, 3, 1);
        x.mend(1, 3, 1);
        x.mend(2, 3, 1);
        due.is("was home", x.mend(1, 3, 0), 1);
        due.is("the first", x.of(0, 3), 1);
        due.is("is not", x.of(1, 3), 0);
        due.is("the last", x.of(2, 3), 1);
        due.is("the last was home", x.mend(2, 3, 0), 1);
        due.is("the first still", x.count(1), 1);
        x = due.sentence("4: the same number again: what it was, and no change");
        due.is("27", x.mend(0, 6, 27), 27);
        due.is("no change", x.count(3), 0);
        due.is("28", x.mend(0, 6, 28), 27);
        due.is("28 again", x.mend(0, 6, 28), 28);
        due.is("one change", x.count(3), 1);
    }

    private static void of() {
        DrownedLight x = due.sentence("5: 0 to 9, as of mend()");
        x.lost(63, 3);
        int[] want = {63, 3, 0, 0, 0, 4, 27, 50, 3, 3};
        for (int what = 0; what < 10; what++) {
            due.is("of(0, " + what + ")", x.of(0, what), want[what]);
        }
        due.is("DEPTH of the last CELL", x.of(63, 4), 0);
        due.is("DRIFT of the last CELL", x.of(63, 5), 4);
        x = due.sentence("5: asking changes nothing");
        x = Due.busy();
        String before = Due.portrait(x);
        x.of(0, 0);
        x.of(63, 4);
        x.of(-1, 4);
        due.is("as before", Due.portrait(x), before);
    }

    private static void seenEdges() {
        DrownedLight x = due.sentence("9: a WAY 0 .. 3");
        for (int way : new int[] {-1, 4, 5, LEAST, MOST}) {
            due.is("way " + way, x.seen(way), NO);
        }
        x = due.sentence("9: from the edge that way it is seen from no CELL");
        int[][] edges = {{0, 3, 7}, {7, 39, 63}, {56, 60, 63}, {0, 32, 56}};
        for (int way = 0; way < 4; way++) {
            for (int lamp : edges[way]) {
                x.mend(0, 6, lamp);
                due.is("way " + way + " from " + lamp, x.seen(way), 0);
            }
        }
        x = due.sentence("9: whatever OIL there is");
        x.mend(0, 6, 8);
        x.mend(0, 7, 0);
        due.is("without oil", x.seen(0), 3);
    }

    private static void seenCells() {
        DrownedLight x = due.sentence("9: that way of it, as far across it as along it, or less (its own not)");
        for (int lamp : new int[] {0, 7, 13, 27, 29, 34, 42, 56, 63}) {
            x.mend(0, 6, lamp);
            long[] want = new long[4];
            for (int cell = 0; cell < 64; cell++) {
                int right = cell % 8 - lamp % 8;
                int down = cell / 8 - lamp / 8;
                if (down < 0 && right <= -down && right >= down) {
                    want[0] |= 1L << cell;
                }
                if (right > 0 && down <= right && down >= -right) {
                    want[1] |= 1L << cell;
                }
                if (down > 0 && right <= down && right >= -down) {
                    want[2] |= 1L << cell;
                }
                if (right < 0 && down <= -right && down >= right) {
                    want[3] |= 1L << cell;
                }
            }
            for (int way = 0; way < 4; way++) {
                due.is("way " + way + " from " + lamp, x.seen(way), want[way]);
            }
        }
        x = due.sentence("9: bits: CELL 63 is the highest");
        x.mend(0, 6, 62);
        due.is("right of 62", x.seen(1), 1L << 63 | 1L << 55);
        x.mend(0, 6, 55);
        due.is("below 55", x.seen(2), 1L << 63 | 1L << 62);
    }
}
