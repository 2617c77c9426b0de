/** Promises 31 to 33 and 39, 40: kinds of nights, their acts, the trace, what is taken. */
public final class ActsTest {
    private static final Due due = new Due();

    /** By KIND: turns(10), burns(10), warns(10), tells(10) of body 3, reckoned by hand; and what ran. */
    private static final int[][] WANT = {
        {13, 26, 9, 24}, {16, 32, 9, 30}, {13, -26, 9, -28}, {13, -28, 27, -34},
        {16, 32, 1, 38}, {13, -28, 27, -37}, {26, 52, 9, 50}, {16, 25, 1, 30},
    };
    private static final int[][][] RAN = {
        {{1}, {10, 1}, {11}, {2, 10, 1, 11}},
        {{20, 1}, {10, 20, 1}, {11}, {2, 10, 20, 1, 11}},
        {{1}, {30, 10, 1}, {11}, {2, 30, 10, 1, 11}},
        {{1}, {41, 30, 10, 1}, {40, 11}, {2, 41, 30, 10, 1, 40, 11}},
        {{20, 1}, {10, 20, 1}, {50, 11, 20, 1}, {2, 10, 20, 1, 50, 11, 20, 1}},
        {{1}, {41, 30, 10, 1}, {40, 11}, {60, 2, 41, 30, 10, 1, 40, 11}},
        {{70, 1}, {10, 70, 1}, {11}, {2, 10, 70, 1, 11}},
        {{20, 1}, {80, 10, 20, 1, 50, 11, 20, 1}, {50, 11, 20, 1},
            {81, 2, 80, 10, 20, 1, 50, 11, 20, 1, 50, 11, 20, 1}},
    };

    public static void main(String[] args) {
        body();
        acts();
        noAct();
        taken();
        count();
        due.end();
    }

    private static void body() {
        due.promise("31 body");
        DrownedLight x = new DrownedLight();
        due.is("kind -1", x.body(-1), -1);
        due.is("kind 8", x.body(8), -1);
        for (int i = 0; i < 50; i++) {
            due.is("the " + i + "th", x.body(i % 8), i);
        }
        due.is("the 51st", x.body(0), -3);
        due.is("BAD ahead of FULL", x.body(8), -1);
        due.is("50", x.count(4), 50);
    }

    private static void acts() {
        due.promise("32 act, 33 trace");
        for (int kind = 0; kind < 8; kind++) {
            DrownedLight x = new DrownedLight();
            x.body(7 - kind);
            x.body(7 - kind);
            x.body(7 - kind);
            x.body(kind);
            for (int act = 0; act < 4; act++) {
                String name = "act " + act + " of kind " + kind;
                due.is(name, x.act(3, act, 10), WANT[kind][act]);
                int[] ran = RAN[kind][act];
                due.is("bodies of " + name, x.count(5), ran.length);
                for (int i = 0; i < ran.length; i++) {
                    due.is("trace " + i + " of " + name, x.trace(i), ran[i]);
                }
                due.is("trace behind", x.trace(ran.length), -1);
                due.is("trace -1", x.trace(-1), -1);
            }
        }
        DrownedLight x = new DrownedLight();
        x.body(0);
        x.body(1);
        due.is("its number counts", x.act(1, 0, 10), 14);
        due.is("ints wrap: turns", x.act(1, 0, Integer.MAX_VALUE), Integer.MIN_VALUE + 3);
        due.is("ints wrap: burns", x.act(0, 1, 1 << 30), Integer.MIN_VALUE);
        due.is("ints wrap: tells", x.act(0, 3, Integer.MIN_VALUE), -1);
    }

    private static void noAct() {
        due.promise("32 act: no such");
        int[][] none = {{-1, 0}, {1, 0}, {0, -1}, {0, 4}, {50, 0}};
        for (int[] n : none) {
            DrownedLight x = new DrownedLight();
            x.body(7);
            x.act(0, 3, 5);
            due.is("bodies ran", x.count(5), 14);
            due.is("act " + n[0] + ", " + n[1], x.act(n[0], n[1], 5), 0);
            due.is("no trace", x.trace(0), -1);
            due.is("none ran", x.count(5), 0);
        }
    }

    private static void taken() {
        due.promise("39 taken");
        int[] above = {-1, 0, 0, 2, 1, 3, 0, 4};
        DrownedLight x = new DrownedLight();
        due.is("nothing", x.taken(0, 0), -11);
        due.is("shelf -1", x.taken(-1, 0), -1);
        due.is("shelf 6", x.taken(6, 0), -1);
        due.is("kind -1", x.taken(0, -1), -1);
        due.is("kind 8", x.taken(0, 8), -1);
        x.row(0, 0, 3);
        due.is("a row", x.taken(0, 0), -12);
        for (int kind = 0; kind < 8; kind++) {
            x.keep(1, x.body(kind));
            for (int k = 0; k < 8; k++) {
                int up = kind;
                while (up >= 0 && up != k) {
                    up = above[up];
                }
                due.is(kind + " taken for " + k, x.taken(1, k), up == k ? kind : -12);
            }
        }
    }

    private static void count() {
        due.promise("40 count");
        DrownedLight x = new DrownedLight();
        due.is("-1", x.count(-1), -1);
        due.is("6", x.count(6), -1);
        x.lost(1, 1);
        x.lost(2, 1);
        x.lost(3, 1);
        x.mend(0, 3, 1);
        x.mend(2, 3, 1);
        x.feed(1);
        x.body(4);
        x.act(0, 2, 1);
        due.is("lost", x.count(0), 3);
        due.is("home", x.count(1), 2);
        due.is("bytes", x.count(2), 1);
        due.is("changes", x.count(3), 2);
        due.is("bodies", x.count(4), 1);
        due.is("ran", x.count(5), 4);
    }
}
