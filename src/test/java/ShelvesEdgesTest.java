/** The edges of promises 31 to 40, sentence by sentence: kinds of nights, acts, shelves, how many. */
public final class ShelvesEdgesTest {
    private static final Due due = new Due();
    private static final int MOST = Integer.MAX_VALUE, LEAST = Integer.MIN_VALUE;
    private static final long NO = Long.MIN_VALUE;

    public static void main(String[] args) {
        body();
        actEdges();
        actWraps();
        actKinds();
        trace();
        keep();
        rowEdges();
        rowAnew();
        putEdges();
        lowestBits();
        shiftRefusals();
        shiftPlaces();
        shiftAsBefore();
        taken();
        count();
        refusedChangesNothing();
        due.end();
    }

    private static void body() {
        DrownedLight x = due.sentence("31: KIND (0 .. 7)");
        for (int kind : new int[] {-1, 8, LEAST, MOST}) {
            due.is("kind " + kind, x.body(kind), -1);
        }
        due.is("none is kept", x.count(4), 0);
        for (int kind = 0; kind < 8; kind++) {
            due.is("its number", x.body(kind), kind);
        }
        x = due.sentence("31: BODIES 0 .. 49; FULL");
        for (int i = 0; i < 50; i++) {
            due.is("its number", x.body(7), i);
        }
        due.is("the 51st", x.body(0), -3);
        due.is("the 52nd", x.body(7), -3);
        due.is("50 are kept", x.count(4), 50);
        due.is("BAD is named first", x.body(8), -1);
        due.is("the last one acts", x.act(49, 2, 0), 49 - (2 + 49 + 3));
        due.is("there is no 50", x.act(50, 0, 0), 0);
    }

    private static void actEdges() {
        due.sentence("32: 0, and no TRACE then: no such NIGHT, ACT");
        int[][] none = {{-1, 0}, {2, 0}, {50, 0}, {LEAST, 0}, {MOST, 0}, {0, -1}, {0, 4}, {1, LEAST}, {1, MOST}, {-1, -1}};
        for (int[] n : none) {
            DrownedLight x = new DrownedLight();
            x.body(0);
            x.body(7);
            x.act(1, 3, 1);
            due.is("ran ahead", x.count(5), 14);
            due.is("act " + n[0] + ", " + n[1], x.act(n[0], n[1], 5), 0);
            due.is("none ran", x.count(5), 0);
            due.is("no TRACE", x.trace(0), -1);
        }
        DrownedLight x = due.sentence("32: ACTS 0 .. 3 of the first and the last NIGHT");
        x.body(0);
        x.body(0);
        int[][] want = {{5, 10, 5, 9}, {6, 12, 4, 12}};
        for (int body = 0; body < 2; body++) {
            for (int act = 0; act < 4; act++) {
                due.is("act " + act + " of " + body, x.act(body, act, 5), want[body][act]);
            }
        }
        x = due.sentence("32: without a NIGHT");
        due.is("0", x.act(0, 0, 5), 0);
    }

    private static void actWraps() {
        DrownedLight x = due.sentence("32: x (an int that wraps)");
        for (int kind = 0; kind < 8; kind++) {
            x.body(kind);
        }
        due.is("turns over the greatest", x.act(1, 0, MOST), LEAST + 3);
        due.is("turns of the least", x.act(0, 0, LEAST), LEAST);
        due.is("burns by 2", x.act(0, 1, 1 << 30), LEAST);
        due.is("burns of the least", x.act(0, 1, LEAST), 0);
        due.is("the least, turned about", x.act(2, 1, (1 << 30) - 2), LEAST);
        due.is("MUG: x + 1 wraps", x.act(3, 1, MOST), -2 * (LEAST + 3));
        due.is("warns by 3", x.act(3, 2, MOST), 3 * (MOST ^ 3));
        due.is("tells of the least", x.act(0, 3, LEAST), -1);
        due.is("BEACH by 2", x.act(6, 0, MOST), 2 * (MOST + 6));
        due.is("WRECK less", x.act(4, 2, LEAST), (LEAST ^ 4) - 9);
        due.is("LATCH", x.act(5, 3, MOST), (-2 * (LEAST + 5) - 3 * (1 ^ 5)) ^ 5);
    }

    /** turns, burns, warns and tells of x by a NIGHT with number n of each KIND, as its bodies say. */
    private static int turns(int kind, int n, int x) {
        switch (kind) {
            case 1:
            case 4:
            case 7:
                return x + n + 3;
            case 6:
                return (x + n) * 2;
            default:
                return x + n;
        }
    }

    private static int warns(int kind, int n, int x) {
        switch (kind) {
            case 3:
            case 5:
                return (x ^ n) * 3;
            case 4:
            case 7:
                return (x ^ n) - turns(kind, n, 2);
            default:
                return x ^ n;
        }
    }

    private static int burns(int kind, int n, int x) {
        switch (kind) {
            case 2:
                return -(turns(kind, n, x) * 2);
            case 3:
            case 5:
                return -(turns(kind, n, x + 1) * 2);
            case 7:
                return turns(kind, n, x) * 2 + warns(kind, n, 2);
            default:
                return turns(kind, n, x) * 2;
        }
    }

    private static int tells(int kind, int n, int x) {
        int plain = burns(kind, n, x) - warns(kind, n, 1);
        return kind == 5 ? plain ^ 5 : kind == 7 ? plain - 1 : plain;
    }

    private static void actKinds() {
        for (int kind = 0; kind < 8; kind++) {
            DrownedLight x = due.sentence("32: the body of its own KIND, or of the next KIND above that has one: KIND " + kind);
            for (int n = 0; n < 9; n++) {
                x.body(kind);
            }
            for (int n = 0; n < 9; n += 4) {
                for (int v : new int[] {0, 1, -1, 10, -77, 1000000007, LEAST, MOST}) {
                    due.is("turns(" + v + ") of " + n, x.act(n, 0, v), turns(kind, n, v));
                    due.is("burns(" + v + ") of " + n, x.act(n, 1, v), burns(kind, n, v));
                    due.is("warns(" + v + ") of " + n, x.act(n, 2, v), warns(kind, n, v));
                    due.is("tells(" + v + ") of " + n, x.act(n, 3, v), tells(kind, n, v));
                }
            }
        }
    }

    private static void trace() {
        DrownedLight x = due.sentence("33: BAD: no such place");
        due.is("none ran", x.trace(0), -1);
        x.body(0);
        x.act(0, 3, 1);
        int[] want = {2, 10, 1, 11};
        for (int i = 0; i < 4; i++) {
            due.is("trace " + i, x.trace(i), want[i]);
        }
        for (int i : new int[] {-1, 4, 23, 24, LEAST, MOST}) {
            due.is("trace " + i, x.trace(i), -1);
        }
        x = due.sentence("33: of the latest act() alone");
        x.body(7);
        x.body(0);
        x.act(0, 3, 1);
        x.act(1, 0, 1);
        due.is("the one that ran", x.trace(0), 1);
        due.is("none behind it", x.trace(1), -1);
        due.is("one ran", x.count(5), 1);
        x = due.sentence("33: as they began: the longest there is");
        x.body(7);
        x.act(0, 3, 1);
        int[] longest = {81, 2, 80, 10, 20, 1, 50, 11, 20, 1, 50, 11, 20, 1};
        for (int i = 0; i < longest.length; i++) {
            due.is("trace " + i, x.trace(i), longest[i]);
        }
        due.is("none behind", x.trace(14), -1);
        due.is("how many ran", x.count(5), 14);
    }

    private static void keep() {
        DrownedLight x = due.sentence("34: BAD: no such SHELF, no such NIGHT");
        due.is("no NIGHT yet", x.keep(0, 0), -1);
        x.body(3);
        for (int v : new int[] {-1, 6, LEAST, MOST}) {
            due.is("shelf " + v, x.keep(v, 0), -1);
            due.is("shelf " + v + ", nothing", x.keep(v, -1), -1);
        }
        for (int v : new int[] {-2, 1, 50, LEAST, MOST}) {
            due.is("body " + v, x.keep(0, v), -1);
        }
        due.is("nothing is there", x.taken(0, 0), -11);
        for (int shelf = 0; shelf < 6; shelf++) {
            due.is("the first and last one", x.keep(shelf, 0), 1);
            due.is("taken", x.taken(shelf, 3), 3);
        }
        x = due.sentence("34: holds nothing (body -1), whatever it held");
        x.body(3);
        due.is("of nothing", x.keep(0, -1), 1);
        x.keep(0, 0);
        due.is("of a NIGHT", x.keep(0, -1), 1);
        due.is("nothing is there", x.taken(0, 0), -11);
        x.row(0, 0, 4);
        due.is("of a ROW", x.keep(0, -1), 1);
        due.is("nothing is there again", x.put(0, 0, 0), -11);
        x = due.sentence("34: the others hold what they held");
        x.body(3);
        x.row(1, 0, 4);
        x.keep(2, 0);
        x.keep(0, 0);
        x.keep(3, -1);
        due.is("a ROW", x.put(1, 3, 1), 1);
        due.is("a NIGHT", x.taken(2, 3), 3);
    }

    private static void rowEdges() {
        DrownedLight x = due.sentence("35: BAD (shelf, sort, n above 60); -14");
        for (int v : new int[] {-1, 6, LEAST, MOST}) {
            due.is("shelf " + v, x.row(v, 0, 1), -1);
            due.is("BAD is named first: shelf " + v, x.row(v, 0, -1), -1);
        }
        for (int v : new int[] {-1, 5, LEAST, MOST}) {
            due.is("sort " + v, x.row(0, v, 1), -1);
            due.is("BAD is named first: sort " + v, x.row(0, v, -1), -1);
        }
        due.is("61", x.row(0, 0, 61), -1);
        due.is("most", x.row(0, 0, MOST), -1);
        due.is("-1", x.row(0, 0, -1), -14);
        due.is("least", x.row(0, 4, LEAST), -14);
        due.is("nothing is there", x.put(0, 0, 0), -11);
        for (int sort = 0; sort < 5; sort++) {
            due.is("of 0", x.row(sort, sort, 0), 1);
            due.is("no place in 0", x.put(sort, 0, 0), -13);
            due.is("of 60", x.row(sort, sort, 60), 1);
            due.is("the 60th place", x.put(sort, 59, 1), 1);
            due.is("no 61st", x.put(sort, 60, 1), -13);
        }
    }

    private static void rowAnew() {
        DrownedLight x = due.sentence("35: 0 at first (false)");
        for (int sort = 0; sort < 5; sort++) {
            x.row(0, sort, 60);
            for (int i = 0; i < 60; i += 59) {
                due.is("place " + i + " of sort " + sort, x.element(0, i), 0);
                x.put(0, i, -1);
            }
            x.row(0, sort, 0);
            x.row(0, sort, 60);
            for (int i = 0; i < 60; i += 59) {
                due.is("anew: place " + i + " of sort " + sort, x.element(0, i), 0);
                x.put(0, i, -1);
            }
        }
        x = due.sentence("35: a refused one leaves what is there");
        x.row(0, 1, 2);
        x.put(0, 1, 77);
        x.row(0, 1, -1);
        x.row(0, 1, 61);
        x.row(0, 5, 1);
        due.is("as it was", x.element(0, 1), 77);
        due.is("as long as it was", x.put(0, 2, 0), -13);
        x.body(4);
        x.keep(1, 0);
        x.row(1, 0, -1);
        due.is("a NIGHT", x.taken(1, 4), 4);
        x = due.sentence("35: in place of a NIGHT");
        x.body(4);
        x.keep(0, 0);
        due.is("a ROW", x.row(0, 0, 1), 1);
        due.is("the NIGHT is gone", x.taken(0, 4), -12);
        due.is("a place", x.element(0, 0), 0);
    }

    private static void putEdges() {
        DrownedLight x = due.sentence("36: BAD, -11, -12, -13; 37: Long.MIN_VALUE");
        x.body(0);
        x.keep(1, 0);
        x.row(2, 3, 2);
        for (int v : new int[] {-1, 6, LEAST, MOST}) {
            due.is("put: shelf " + v, x.put(v, 0, 1), -1);
            due.is("element: shelf " + v, x.element(v, 0), NO);
        }
        due.is("put: nothing", x.put(0, 0, 1), -11);
        due.is("element: nothing", x.element(0, 0), NO);
        due.is("put: a NIGHT", x.put(1, 0, 1), -12);
        due.is("element: a NIGHT", x.element(1, 0), NO);
        for (int i : new int[] {-1, 2, 60, LEAST, MOST}) {
            due.is("put: place " + i, x.put(2, i, 1), -13);
            due.is("element: place " + i, x.element(2, i), NO);
            due.is("put: nothing, named ahead of place " + i, x.put(0, i, 1), -11);
            due.is("put: a NIGHT, named ahead of place " + i, x.put(1, i, 1), -12);
        }
        due.is("place 0 is as it was", x.element(2, 0), 0);
        due.is("place 1 is as it was", x.element(2, 1), 0);
        due.is("the first place", x.put(2, 0, 5), 1);
        due.is("the last place", x.put(2, 1, 6), 1);
        due.is("the first", x.element(2, 0), 5);
        due.is("the last", x.element(2, 1), 6);
    }

    private static void lowestBits() {
        String[] sorts = {"bytes", "shorts", "ints", "longs", "booleans"};
        long[] told = {0, 1, -1, 127, 128, 255, 256, -128, -129, 32767, 32768, 65535, 65536, -32768, -32769, 2147483647L,
            2147483648L, 4294967295L, 4294967296L, -2147483648L, -2147483649L, Long.MAX_VALUE, Long.MIN_VALUE};
        for (int sort = 0; sort < 5; sort++) {
            DrownedLight x = due.sentence("36: what is put in keeps its lowest bits: " + sorts[sort]);
            x.row(4, sort, 3);
            for (long v : told) {
                long[] kept = {(byte) v, (short) v, (int) v, v, v == 0 ? 0 : 1};
                due.is("put " + v, x.put(4, 1, v), 1);
                due.is("kept of " + v, x.element(4, 1), kept[sort]);
            }
            due.is("ahead of it", x.element(4, 0), 0);
            due.is("behind it", x.element(4, 2), 0);
        }
    }

    private static void shiftRefusals() {
        DrownedLight x = due.sentence("38: BAD, -11 (either), -12 (no ROWS, or of unlike sorts), -13");
        x.body(0);
        x.keep(1, 0);
        for (int shelf = 2; shelf < 4; shelf++) {
            Due.bytes(x, shelf, 1, 2, 3);
        }
        x.row(4, 1, 3);
        for (int v : new int[] {-1, 6, LEAST, MOST}) {
            due.is("shelf " + v, x.shift(v, 0, 2, 0, 1), -1);
            due.is("other " + v, x.shift(2, 0, v, 0, 1), -1);
            due.is("BAD is named ahead of -11: " + v, x.shift(0, 0, v, 0, 1), -1);
        }
        due.is("from nothing", x.shift(0, 0, 2, 0, 1), -11);
        due.is("to nothing", x.shift(2, 0, 0, 0, 1), -11);
        due.is("-11 is named ahead of -12", x.shift(1, 0, 0, 0, 1), -11);
        due.is("-11 is named ahead of -13", x.shift(2, -1, 0, 0, 1), -11);
        due.is("none of nothing", x.shift(0, 0, 0, 0, 0), -11);
        due.is("from a NIGHT", x.shift(1, 0, 2, 0, 1), -12);
        due.is("to a NIGHT", x.shift(2, 0, 1, 0, 1), -12);
        due.is("from a NIGHT to itself", x.shift(1, 0, 1, 0, 0), -12);
        due.is("-12 is named ahead of -13", x.shift(2, -1, 1, 0, 1), -12);
        due.is("unlike sorts", x.shift(2, 0, 4, 0, 1), -12);
        due.is("unlike sorts, the other way", x.shift(4, 0, 2, 0, 1), -12);
        due.is("none of unlike sorts", x.shift(4, 0, 2, 0, 0), -12);
        due.is("unlike sorts, named ahead of -13", x.shift(4, 9, 2, 9, 9), -12);
        x = due.sentence("38: all sorts go, each to its like alone");
        for (int sort = 0; sort < 5; sort++) {
            x.row(sort, sort, 1);
        }
        for (int from = 0; from < 5; from++) {
            for (int to = 0; to < 5; to++) {
                due.is("from " + from + " to " + to, x.shift(from, 0, to, 0, 1), from == to ? 1 : -12);
            }
        }
    }

    private static void shiftPlaces() {
        DrownedLight x = due.sentence("38: -13: a place that is not there");
        Due.bytes(x, 0, 1, 2, 3, 4);
        Due.bytes(x, 1, 5, 6, 7);
        int[][] none = {{-1, 0, 1}, {-1, 0, 0}, {0, -1, 1}, {0, -1, 0}, {4, 0, 1}, {5, 0, 0}, {0, 3, 1}, {0, 4, 0}, {0, 0, 4},
            {1, 0, 4}, {2, 0, 3}, {0, 1, 3}, {0, 2, 2}, {0, 0, -1}, {0, 0, LEAST}, {1, 1, -1}, {0, 0, MOST}, {1, 1, MOST},
            {MOST, 0, 1}, {0, MOST, 1}, {MOST, MOST, MOST}, {LEAST, 0, 0}, {0, LEAST, 0}};
        for (int[] p : none) {
            due.is("places " + p[0] + ", " + p[1] + ", " + p[2], x.shift(0, p[0], 1, p[1], p[2]), -13);
        }
        for (int i = 0; i < 3; i++) {
            due.is("as it was " + i, x.element(1, i), 5 + i);
        }
        x = due.sentence("38: up to the end of either, none at the end");
        Due.bytes(x, 0, 1, 2, 3, 4);
        Due.bytes(x, 1, 5, 6, 7);
        due.is("none at both ends", x.shift(0, 4, 1, 3, 0), 0);
        due.is("none at the beginning", x.shift(0, 0, 1, 0, 0), 0);
        due.is("the last to the last", x.shift(0, 3, 1, 2, 1), 1);
        due.is("is there", x.element(1, 2), 4);
        due.is("the first stand", x.element(1, 0) * 10 + x.element(1, 1), 56);
        due.is("all of the shorter", x.shift(1, 0, 0, 1, 3), 3);
        due.is("came", x.element(0, 0) * 1000 + x.element(0, 1) * 100 + x.element(0, 2) * 10 + x.element(0, 3), 1564);
        x.row(2, 0, 0);
        due.is("none of none", x.shift(2, 0, 2, 0, 0), 0);
        due.is("one of none", x.shift(2, 0, 2, 0, 1), -13);
        x = due.sentence("38: all 60");
        x.row(0, 3, 60);
        x.row(1, 3, 60);
        x.put(0, 0, Long.MAX_VALUE);
        x.put(0, 59, -5);
        due.is("60", x.shift(0, 0, 1, 0, 60), 60);
        due.is("the first", x.element(1, 0), Long.MAX_VALUE);
        due.is("the last", x.element(1, 59), -5);
    }

    private static void isRow(DrownedLight x, int... want) {
        for (int i = 0; i < want.length; i++) {
            due.is("element " + i, x.element(0, i), want[i]);
        }
    }

    private static void shiftAsBefore() {
        DrownedLight x = due.sentence("38: (or the same), as they all were before: up");
        Due.bytes(x, 0, 1, 2, 3, 4, 5);
        due.is("four", x.shift(0, 0, 0, 1, 4), 4);
        isRow(x, 1, 1, 2, 3, 4);
        x = due.sentence("38: (or the same), as they all were before: down");
        Due.bytes(x, 0, 1, 2, 3, 4, 5);
        due.is("four", x.shift(0, 1, 0, 0, 4), 4);
        isRow(x, 2, 3, 4, 5, 5);
        x = due.sentence("38: (or the same), to where they are");
        Due.bytes(x, 0, 1, 2, 3, 4, 5);
        due.is("five", x.shift(0, 0, 0, 0, 5), 5);
        isRow(x, 1, 2, 3, 4, 5);
        x = due.sentence("38: what is taken stays where it was");
        Due.bytes(x, 0, 1, 2, 3);
        x.row(1, 0, 3);
        x.shift(0, 0, 1, 0, 3);
        isRow(x, 1, 2, 3);
        x.put(1, 0, 9);
        isRow(x, 1, 2, 3);
    }

    private static void taken() {
        DrownedLight x = due.sentence("39: BAD, -11, -12");
        x.body(7);
        for (int v : new int[] {-1, 6, LEAST, MOST}) {
            due.is("shelf " + v, x.taken(v, 0), -1);
        }
        for (int v : new int[] {-1, 8, LEAST, MOST}) {
            due.is("kind " + v, x.taken(0, v), -1);
        }
        due.is("nothing", x.taken(0, 0), -11);
        for (int sort = 0; sort < 5; sort++) {
            x.row(0, sort, 3);
            due.is("sort " + sort, x.taken(0, 0), -12);
            due.is("BAD is named first", x.taken(0, 8), -1);
        }
        x = due.sentence("39: of KIND k, or under it: its KIND");
        int[][] under = {{0, 1, 2, 3, 4, 5, 6, 7}, {1, 4, 7}, {2, 3, 5}, {3, 5}, {4, 7}, {5}, {6}, {7}};
        for (int kind = 0; kind < 8; kind++) {
            x.body(kind);
            x.keep(kind % 6, kind);
            for (int k = 0; k < 8; k++) {
                int want = -12;
                for (int one : under[k]) {
                    want = one == kind ? kind : want;
                }
                due.is(kind + " taken for " + k, x.taken(kind % 6, k), want);
            }
        }
    }

    private static void count() {
        DrownedLight x = due.sentence("40: what 0 .. 5; BAD");
        for (int what : new int[] {-1, 6, LEAST, MOST}) {
            due.is("count " + what, x.count(what), -1);
        }
        for (int what = 0; what < 6; what++) {
            due.is("count " + what, x.count(what), 0);
        }
        x = due.sentence("40: LOST ones, 1 HOME");
        Due.lost(x, 26, 1, 2);
        x.mend(2, 3, 1);
        x.night(3);
        due.is("LOST ones", x.count(0), 3);
        due.is("HOME", x.count(1), 2);
        x = due.sentence("40: bytes on THE TAPE");
        x.feed(1);
        x.feed(2);
        due.is("two", x.count(2), 2);
        x.feed(256);
        due.is("two still", x.count(2), 2);
        x = due.sentence("40: changes that may be UNDONE");
        x.mend(0, 7, 1);
        x.mend(0, 7, 2);
        x.undo();
        due.is("one", x.count(3), 1);
        x.redo();
        due.is("two", x.count(3), 2);
        x = due.sentence("40: BODIES; bodies that ran in the latest act()");
        x.body(7);
        x.body(3);
        due.is("two", x.count(4), 2);
        x.act(1, 3, 0);
        due.is("seven ran", x.count(5), 7);
        x.act(1, 0, 0);
        due.is("one ran", x.count(5), 1);
    }

    private static void refusedChangesNothing() {
        DrownedLight x = due.sentence("31 to 40: what is refused changes nothing");
        x = Due.busy();
        String before = Due.portrait(x);
        x.body(8);
        x.trace(-1);
        x.trace(24);
        x.keep(6, 0);
        x.keep(0, 2);
        x.row(6, 0, 1);
        x.row(0, 5, 1);
        x.row(1, 0, 61);
        x.row(1, 0, -1);
        x.put(0, 0, 1);
        x.put(1, 3, 1);
        x.put(3, 0, 1);
        x.element(1, 3);
        x.shift(1, 0, 2, 0, 1);
        x.shift(1, 0, 1, 1, 3);
        x.shift(1, 0, 3, 0, 1);
        x.taken(0, 5);
        x.taken(1, 0);
        x.count(6);
        due.is("as before", Due.portrait(x), before);
    }
}
