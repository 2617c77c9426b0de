/** Promises 20 to 23: shares, mistakes, turns, draws. */
public final class SharesTest {
    private static final Due due = new Due();
    private static final long NO = Long.MIN_VALUE;
    private static final int VOID = -2000000000;

    public static void main(String[] args) {
        share();
        heard();
        byTurns();
        drawn();
        due.end();
    }

    private static void share() {
        due.promise("20 share");
        DrownedLight x = new DrownedLight();
        due.is("parish -1", x.share(-1, 1), -1);
        due.is("parish 4", x.share(4, 1), -1);
        due.is("v -1", x.share(0, -1), -1);
        due.is("v 10000", x.share(0, 10000), -1);
        due.is("none", x.share(0, 9999), 0);
        x.lost(1, 0);
        x.lost(2, 0);
        x.lost(3, 2);
        x.mend(0, 2, 2);
        x.mend(1, 2, 2);
        x.mend(2, 2, 2);
        // parish 0: 2 and 4 by 3, together 3; parish 2: 1 and 2 by 3, together 1
        due.is("three of four", x.share(0, 10), 7);
        due.is("one of four", x.share(2, 10), 2);
        due.is("nobody of it", x.share(1, 10), 0);
        due.is("of nothing", x.share(0, 0), 0);
        due.is("of all", x.share(0, 9999), 7499);
        x.mend(0, 3, 1);
        // parish 0: 1 and 0; parish 2: 1 and 0
        due.is("who is home does not count", x.share(0, 10), 5);
        x.mend(1, 3, 1);
        due.is("all to the other", x.share(2, 9), 9);
        x.mend(2, 3, 1);
        due.is("all are home", x.share(2, 9), 0);
    }

    private static void heard() {
        due.promise("21 heard");
        DrownedLight x = new DrownedLight();
        due.is("way -1", x.heard(-1, 0), NO);
        due.is("way 4", x.heard(4, 0), NO);
        due.is("part 2", x.heard(0, 2), NO);
        due.is("part -1", x.heard(0, -1), NO);
        x.mend(0, 6, 9);
        due.is("all of depth 0", x.heard(0, 0), 1);
        due.is("in lowest terms", x.heard(0, 1), 1);
        x.mend(1, 4, 1);
        due.is("two", x.heard(0, 0), 2);
        due.is("of three", x.heard(0, 1), 3);
        x.mend(0, 4, 9);
        x.mend(2, 4, 1);
        due.is("none", x.heard(0, 0), 0);
        due.is("of one, in lowest terms", x.heard(0, 1), 1);
        x.mend(0, 6, 18);
        // up from 18: 9, 10, 11 and 0 .. 4: 8 cells, 3 of them deep
        due.is("five", x.heard(0, 0), 5);
        due.is("of eight", x.heard(0, 1), 8);
        x.mend(3, 4, 1);
        due.is("four of eight: one", x.heard(0, 0), 1);
        due.is("of two", x.heard(0, 1), 2);
        x.mend(0, 6, 0);
        due.is("seen from nowhere", x.heard(0, 0), 0);
        due.is("seen from nowhere, below", x.heard(0, 1), 1);
    }

    private static void byTurns() {
        due.promise("22 byTurns");
        DrownedLight x = new DrownedLight();
        due.is("parish -1", x.byTurns(-1, 1, 0), VOID);
        due.is("parish 4", x.byTurns(4, 1, 0), VOID);
        due.is("n 0", x.byTurns(0, 0, 0), VOID);
        due.is("n 5", x.byTurns(0, 5, 0), VOID);
        due.is("what 2", x.byTurns(0, 1, 2), VOID);
        due.is("what -1", x.byTurns(0, 1, -1), VOID);
        due.is("nobody", x.byTurns(0, 4, 0), 0);
        due.is("nobody: 4 first", x.byTurns(0, 4, 1), 4);
        x.lost(28, 0);
        x.lost(19, 1);
        // the keeper may fetch one of them; of parish 0 it is worth 1, else 1 less 2
        due.is("fetching him of parish 0", x.byTurns(0, 1, 0), 1);
        due.is("to the right", x.byTurns(0, 1, 1), 1);
        due.is("fetching the other", x.byTurns(1, 1, 1), 0);
        due.is("of a parish without any, the least way", x.byTurns(2, 1, 1), 0);
        due.is("worth", x.byTurns(2, 1, 0), 1);
        // the widows would bring nobody home: two nights are worth no more
        due.is("two nights", x.byTurns(2, 2, 0), 1);
        due.is("three nights", x.byTurns(2, 3, 0), 2);
        x.mend(0, 0, 29);
        // 29 needs two nights: of two the widows hold one
        due.is("28 at best", x.byTurns(0, 2, 0), -1);
        due.is("he who is near is fetched", x.byTurns(0, 2, 1), 0);
        due.is("three nights: he comes home, too, or the other", x.byTurns(0, 3, 0), 1);
        x.mend(28, 5, 1);
        x.mend(29, 5, 4);
        due.is("the widows let him drift", x.byTurns(0, 3, 0), -1);
        x.mend(0, 7, 2);
        due.is("no oil", x.byTurns(0, 3, 0), -2);
        due.is("no oil: 4 first", x.byTurns(0, 3, 1), 4);
    }

    private static void drawn() {
        due.promise("23 drawn");
        DrownedLight x = new DrownedLight();
        x.lost(19, 0);
        x.lost(26, 0);
        due.is("n 0", x.drawn(1, 100, -1), -1);
        due.is("n 31", x.drawn(1, 310100, -1), -1);
        due.is("m 0", x.drawn(1, 10000, -1), -1);
        due.is("m 31", x.drawn(1, 13100, -1), -1);
        due.is("fog 13", x.drawn(1, 10113, -1), -1);
        due.is("below 0", x.drawn(1, -10101, -1), -1);
        due.is("lost 2", x.drawn(1, 10100, 2), -1);
        due.is("lost -2", x.drawn(1, 10100, -2), -1);
        due.is("fog each night", x.drawn(1, 303012, -1), 0);
        // one night a year: counted out by hand
        int z = 77;
        int[] ways = new int[5];
        for (int year = 0; year < 30; year++) {
            z = z * 1103515245 + 12345;
            ways[(z >>> 16) % 12 < 5 ? 4 : (z >>> 8) % 4]++;
        }
        due.is("up", x.drawn(77, 300105, 0), ways[0]);
        due.is("left", x.drawn(77, 300105, 1), ways[3]);
        due.is("both", x.drawn(77, 300105, -1), ways[0] + ways[3]);
        x.mend(0, 3, 1);
        due.is("home from the first", x.drawn(77, 300112, 0), 30);
        due.is("each year from now", x.of(1, 0) + x.of(0, 7), 76);
        x.mend(0, 7, 3);
        due.is("oil of each year is that of now", x.drawn(77, 300105, 1), ways[3]);
    }
}
