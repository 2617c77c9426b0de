/** Promises 34 to 38: shelves and their rows. */
public final class ShelvesTest {
    private static final Due due = new Due();
    private static final long NO = Long.MIN_VALUE;

    public static void main(String[] args) {
        keep();
        row();
        putAndElement();
        shift();
        due.end();
    }

    private static void keep() {
        due.promise("34 keep");
        DrownedLight x = new DrownedLight();
        due.is("no body 0", x.keep(0, 0), -1);
        x.body(5);
        due.is("shelf -1", x.keep(-1, 0), -1);
        due.is("shelf 6", x.keep(6, 0), -1);
        due.is("body -2", x.keep(0, -2), -1);
        due.is("body 1", x.keep(0, 1), -1);
        for (int shelf = 0; shelf < 6; shelf++) {
            due.is("a night", x.keep(shelf, 0), 1);
            due.is("is there", x.taken(shelf, 5), 5);
        }
        due.is("nothing", x.keep(0, -1), 1);
        due.is("is there", x.taken(0, 5), -11);
        x.row(1, 0, 3);
        due.is("a row instead", x.taken(1, 5), -12);
        x.put(1, 1, 9);
        x.keep(1, 0);
        due.is("a night instead", x.element(1, 1), NO);
        due.is("no put in a night", x.put(1, 1, 9), -12);
        x.row(1, 0, 3);
        due.is("a row anew is of zeros", x.element(1, 1), 0);
        x.keep(1, -1);
        due.is("nothing instead", x.element(1, 1), NO);
        due.is("no put in nothing", x.put(1, 1, 9), -11);
    }

    private static void row() {
        due.promise("35 row");
        DrownedLight x = new DrownedLight();
        due.is("shelf -1", x.row(-1, 0, 1), -1);
        due.is("shelf 6", x.row(6, 0, 1), -1);
        due.is("sort -1", x.row(0, -1, 1), -1);
        due.is("sort 5", x.row(0, 5, 1), -1);
        due.is("61", x.row(0, 0, 61), -1);
        due.is("-1", x.row(0, 0, -1), -14);
        due.is("least", x.row(0, 0, Integer.MIN_VALUE), -14);
        due.is("BAD ahead of -14: shelf", x.row(6, 0, -1), -1);
        due.is("BAD ahead of -14: sort", x.row(0, 5, -1), -1);
        due.is("nothing is there yet", x.element(0, 0), NO);
        due.is("nothing to put it in", x.put(0, 0, 1), -11);
        for (int sort = 0; sort < 5; sort++) {
            due.is("60", x.row(sort, sort, 60), 1);
            for (int i = 0; i < 60; i++) {
                due.is("zero", x.element(sort, i), 0);
                x.put(sort, i, 1);
            }
            due.is("the 61st", x.element(sort, 60), NO);
            due.is("put: the 61st", x.put(sort, 60, 1), -13);
            x.row(sort, sort, -1);
            due.is("refused: all stands", x.element(sort, 59), 1);
            due.is("anew", x.row(sort, sort, 2), 1);
            due.is("zero again", x.element(sort, 1), 0);
            due.is("shorter", x.element(sort, 2), NO);
            due.is("put: shorter", x.put(sort, 2, 1), -13);
            due.is("longer", x.row(sort, sort, 60), 1);
            due.is("zero behind, too", x.element(sort, 30), 0);
        }
        due.is("empty", x.row(0, 0, 0), 1);
        due.is("no place", x.element(0, 0), NO);
        due.is("put: no place", x.put(0, 0, 1), -13);
    }

    private static void putAndElement() {
        due.promise("36 put, 37 element");
        DrownedLight x = new DrownedLight();
        due.is("put: shelf -1", x.put(-1, 0, 0), -1);
        due.is("put: shelf 6", x.put(6, 0, 0), -1);
        due.is("element: shelf -1", x.element(-1, 0), NO);
        due.is("element: shelf 6", x.element(6, 0), NO);
        due.is("element: nothing is there", x.element(0, 0), NO);
        due.is("put: nothing is there", x.put(0, 0, 0), -11);
        x.body(0);
        x.keep(0, 0);
        due.is("element: a night", x.element(0, 0), NO);
        due.is("put: a night", x.put(0, 0, 0), -12);
        long[] put = {0, 1, -1, 2, 127, 128, 255, 256, 32767, 32768, 65536, 1L << 31, 1L << 32, Long.MAX_VALUE,
            Long.MIN_VALUE, 0x123456789abcdef0L};
        for (int sort = 0; sort < 5; sort++) {
            x.row(0, sort, 3);
            due.is("put: place -1", x.put(0, -1, 7), -13);
            due.is("put: place 3", x.put(0, 3, 7), -13);
            due.is("put: place least", x.put(0, Integer.MIN_VALUE, 7), -13);
            due.is("element: place -1", x.element(0, -1), NO);
            due.is("element: place 3", x.element(0, 3), NO);
            due.is("element: place most", x.element(0, Integer.MAX_VALUE), NO);
            due.is("element: place least", x.element(0, Integer.MIN_VALUE), NO);
            for (long v : put) {
                long[] kept = {(byte) v, (short) v, (int) v, v, v == 0 ? 0 : 1};
                due.is("put " + v, x.put(0, 1, v), 1);
                due.is("kept of " + v + " in sort " + sort, x.element(0, 1), kept[sort]);
                due.is("beside", x.element(0, 0) | x.element(0, 2), 0);
            }
        }
    }

    private static void isRow(DrownedLight x, int shelf, int... want) {
        for (int i = 0; i < want.length; i++) {
            due.is("element " + i + " of " + shelf, x.element(shelf, i), want[i]);
        }
        due.is("length", x.element(shelf, want.length), NO);
    }

    private static void shift() {
        due.promise("38 shift");
        DrownedLight x = new DrownedLight();
        Due.bytes(x, 0, 1, 2, 3, 4, 5);
        x.row(1, 0, 3);
        due.is("both ways: shelf", x.shift(6, 0, 0, 0, 1), -1);
        due.is("shelf -1", x.shift(-1, 0, 0, 0, 1), -1);
        due.is("other 6", x.shift(0, 0, 6, 0, 1), -1);
        due.is("other -1", x.shift(0, 0, -1, 0, 1), -1);
        due.is("nothing", x.shift(2, 0, 0, 0, 1), -11);
        due.is("to nothing", x.shift(0, 0, 2, 0, 1), -11);
        x.body(0);
        x.keep(3, 0);
        due.is("a night", x.shift(3, 0, 0, 0, 1), -12);
        due.is("to a night", x.shift(0, 0, 3, 0, 1), -12);
        due.is("-11 ahead of -12", x.shift(3, 0, 2, 0, 1), -11);
        due.is("-11 ahead of -12, the other way", x.shift(2, 0, 3, 0, 1), -11);
        x.row(4, 4, 5);
        due.is("unlike sorts", x.shift(0, 0, 4, 0, 1), -12);
        due.is("unlike sorts ahead of places", x.shift(0, 9, 4, 9, 1), -12);
        int[][] noPlace = {{-1, 0, 1}, {0, -1, 1}, {0, 0, 4}, {0, 0, -1}, {5, 0, 1}, {4, 0, 2}, {0, 3, 1}, {0, 2, 2}, {6, 0, 0},
            {0, 4, 0}, {-1, 0, 0}, {1, 1, Integer.MAX_VALUE}, {Integer.MAX_VALUE, 0, 1}, {0, Integer.MIN_VALUE, 1}};
        for (int[] p : noPlace) {
            due.is("places " + p[0] + ", " + p[1] + ", " + p[2], x.shift(0, p[0], 1, p[1], p[2]), -13);
        }
        isRow(x, 1, 0, 0, 0);
        due.is("none", x.shift(0, 5, 1, 3, 0), 0);
        due.is("two", x.shift(0, 3, 1, 1, 2), 2);
        isRow(x, 1, 0, 4, 5);
        isRow(x, 0, 1, 2, 3, 4, 5);
        due.is("the same, up", x.shift(0, 0, 0, 1, 4), 4);
        isRow(x, 0, 1, 1, 2, 3, 4);
        due.is("the same, down", x.shift(0, 2, 0, 0, 3), 3);
        isRow(x, 0, 2, 3, 4, 3, 4);
        x.row(5, 4, 4);
        x.put(5, 0, 7);
        due.is("booleans", x.shift(5, 0, 4, 2, 3), 3);
        isRow(x, 4, 0, 0, 1, 0, 0);
    }
}
