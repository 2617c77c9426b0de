/** Promises 10 to 14: nights in thought. */
public final class NightsTest {
    private static final Due due = new Due();

    public static void main(String[] args) {
        refusals();
        walking();
        drifting();
        allAsTheNightBegins();
        ends();
        since();
        best();
        fetch();
        due.end();
    }

    private static void refusals() {
        due.promise("10 later, 11 home, 12 since");
        DrownedLight x = new DrownedLight();
        x.lost(25, 0);
        due.is("later: nothing", x.later(0, 0, 0, 0), -11);
        due.is("home: nothing", x.home(0, 0, 0), -11);
        due.is("since: nothing", x.since(0, 0), -11);
        for (int sort = 1; sort < 5; sort++) {
            x.row(1, sort, 3);
            due.is("later: sort " + sort, x.later(1, 0, 0, 0), -12);
            due.is("home: sort " + sort, x.home(1, 0, 0), -12);
            due.is("since: sort " + sort, x.since(1, 0), -12);
        }
        x.body(0);
        x.keep(1, 0);
        due.is("later: a NIGHT", x.later(1, 0, 0, 0), -12);
        due.is("home: a NIGHT", x.home(1, 0, 0), -12);
        due.is("since: a NIGHT", x.since(1, 0), -12);
        for (int shelf = 0; shelf < 2; shelf++) {
            due.is("later: BAD ahead, lost", x.later(shelf, 0, 1, 0), -1);
            due.is("later: BAD ahead, lost -1", x.later(shelf, 0, -1, 0), -1);
            due.is("later: BAD ahead, n", x.later(shelf, 41, 0, 0), -1);
            due.is("later: BAD ahead, n -1", x.later(shelf, -1, 0, 0), -1);
            due.is("later: BAD ahead, what", x.later(shelf, 0, 0, 2), -1);
            due.is("later: BAD ahead, what -1", x.later(shelf, 0, 0, -1), -1);
            due.is("home: BAD ahead, n", x.home(shelf, 41, 0), -1);
            due.is("home: BAD ahead, n -1", x.home(shelf, -1, 0), -1);
            due.is("home: BAD ahead, what", x.home(shelf, 0, 2), -1);
            due.is("home: BAD ahead, what -1", x.home(shelf, 0, -1), -1);
            due.is("since: BAD ahead, lost", x.since(shelf, 1), -1);
        }
        for (int shelf = -1; shelf < 7; shelf += 7) {
            due.is("later: shelf " + shelf, x.later(shelf, 0, 0, 0), -1);
            due.is("home: shelf " + shelf, x.home(shelf, 0, 0), -1);
            due.is("since: shelf " + shelf, x.since(shelf, 0), -1);
        }
    }

    private static void walking() {
        due.promise("10 later, walking");
        DrownedLight x = new DrownedLight();
        // 9 is X 1, Y 1: as far along X as along Y from 27 (X 3, Y 3)
        x.lost(9, 0);
        x.lost(1, 0);
        x.lost(20, 0);
        Due.bytes(x, 0, 0, 0, 3, 0, 0, 0);
        due.is("of like ones along X", x.later(0, 1, 0, 0), 10);
        due.is("then along Y, farther", x.later(0, 2, 0, 0), 18);
        due.is("left is not up: 18 is seen on the slant", x.later(0, 3, 0, 0), 19);
        due.is("home at 27", x.later(0, 4, 0, 0), 27);
        due.is("home", x.later(0, 4, 0, 1), 1);
        due.is("not yet", x.later(0, 3, 0, 1), 0);
        due.is("farther along Y", x.later(0, 1, 1, 0), 9);
        due.is("from the right", x.later(0, 1, 2, 0), 19);
        due.is("nothing came to pass", x.of(0, 0), 9);
        due.is("nor of oil", x.of(0, 7), 50);
        due.is("nor led", x.led(0), 0);
        Due.bytes(x, 1, 1, 1, 2, 2);
        due.is("not seen, no drift", x.later(1, 4, 0, 0), 9);
        x.mend(0, 9, 7);
        due.is("not drawn enough", x.later(0, 4, 0, 0), 9);
        x.mend(0, 9, 6);
        due.is("drawn by just as much", x.later(0, 1, 0, 0), 10);
        x.mend(9, 4, 1);
        due.is("1 by 2 is cut", x.later(0, 1, 0, 0), 10);
        x.mend(9, 4, 2);
        due.is("too deep", x.later(0, 1, 0, 0), 9);
    }

    private static void drifting() {
        due.promise("10 later, drifting");
        DrownedLight x = new DrownedLight();
        x.lost(0, 0);
        x.lost(7, 0);
        x.lost(56, 0);
        x.lost(63, 0);
        x.lost(36, 0);
        Due.bytes(x, 0, 4, 4);
        int[] cells = {0, 7, 56, 63};
        int[][] next = {{0, 1, 8, 0, 0}, {7, 7, 15, 6, 7}, {48, 57, 56, 56, 56}, {55, 63, 63, 62, 63}};
        int[] mid = {28, 37, 44, 35, 36};
        for (int drift = 4; drift >= 0; drift--) {
            for (int i = 0; i < 4; i++) {
                x.mend(cells[i], 5, drift);
                due.is("from " + cells[i] + " by " + drift, x.later(0, 1, i, 0), next[i][drift]);
            }
            x.mend(36, 5, drift);
            due.is("from 36 by " + drift, x.later(0, 1, 4, 0), mid[drift]);
        }
        // into the lamp's cell by drift
        x.mend(4, 0, 26);
        x.mend(26, 5, 1);
        due.is("drifts home", x.later(0, 1, 4, 1), 1);
        x.mend(27, 5, 1);
        due.is("and stays", x.later(0, 2, 4, 0), 27);
        // he who lies in the lamp's cell does not see it
        x.mend(4, 0, 27);
        Due.bytes(x, 0, 0, 1);
        due.is("drifts off the lamp", x.later(0, 1, 4, 0), 28);
        x.mend(4, 3, 1);
        due.is("who is home stays", x.later(0, 1, 4, 0), 27);
        x.mend(4, 0, 26);
        due.is("wherever he is", x.later(0, 1, 4, 0), 26);
    }

    private static void allAsTheNightBegins() {
        due.promise("11 home, all as they stand as the night begins");
        DrownedLight x = new DrownedLight();
        // l is 50 as the night begins, 47 behind it
        Due.law(x, "l=50?9;0");
        x.lost(25, 0);
        Due.bytes(x, 0, 3, 3);
        due.is("first night: walks", x.later(0, 1, 0, 0), 26);
        due.is("second night: not drawn", x.later(0, 2, 0, 0), 26);
        // a: the one who comes home this night draws the other only the next
        x = new DrownedLight();
        Due.law(x, "d=1|a>0?9;0");
        x.lost(26, 2);
        x.lost(24, 2);
        Due.bytes(x, 0, 3, 3, 3);
        due.is("the second waits a night", x.later(0, 1, 1, 0), 24);
        due.is("then walks", x.later(0, 2, 1, 0), 25);
        // n: both leave together
        x = new DrownedLight();
        Due.law(x, "n*9");
        x.lost(24, 0);
        x.lost(24, 1);
        x.lost(25, 1);
        Due.bytes(x, 0, 3, 3, 3);
        due.is("first of two", x.later(0, 1, 0, 0), 25);
        due.is("second of two", x.later(0, 1, 1, 0), 25);
        due.is("one alone stays", x.later(0, 1, 2, 0), 25);
        due.is("three go on", x.home(0, 3, 0), 7);
    }

    private static void ends() {
        due.promise("11 home, NIGHTS");
        DrownedLight x = new DrownedLight();
        x.mend(0, 7, 999);
        x.mend(0, 8, 1);
        x.row(0, 0, 60);
        due.is("no night", x.home(0, 0, 1), 999);
        due.is("40 at most", x.home(0, 40, 1), 959);
        x.put(0, 7, 5);
        due.is("it ends with 5", x.home(0, 40, 1), 992);
        x.put(0, 6, -1);
        due.is("it ends with -1", x.home(0, 40, 1), 993);
        x.put(0, 2, 4);
        due.is("4 burns none", x.home(0, 40, 1), 994);
        due.is("as many as told", x.home(0, 3, 1), 997);
        x.mend(0, 8, 9);
        x.mend(0, 7, 19);
        due.is("as long as oil is BURNS or more", x.home(0, 40, 1), 1);
        x.mend(0, 7, 18);
        due.is("just BURNS", x.home(0, 40, 1), 0);
        x.mend(0, 7, 8);
        x.lost(19, 0);
        due.is("not enough to burn", x.home(0, 1, 1), 8);
        due.is("so nobody sees it", x.home(0, 1, 0), 0);
        x.mend(0, 7, 9);
        due.is("enough", x.home(0, 1, 0), 1);
        x.mend(0, 3, 1);
        due.is("home now", x.home(0, 0, 0), 1);
        x.lost(5, 0);
        x.lost(5, 0);
        x.mend(2, 3, 1);
        due.is("bits", x.home(0, 0, 0), 5);
    }

    private static void since() {
        due.promise("12 since");
        DrownedLight x = new DrownedLight();
        x.lost(3, 0);
        Due.bytes(x, 0, 0, 4, 0, 2, 0, 0);
        due.is("behind how many", x.since(0, 0), 5);
        x.put(0, 3, 7);
        due.is("the nights end before", x.since(0, 0), -2);
        x.mend(0, 3, 1);
        due.is("now", x.since(0, 0), 0);
        x.mend(0, 3, 0);
        x.mend(0, 0, 27);
        x.row(0, 0, 0);
        due.is("without a night he is not home", x.since(0, 0), -2);
        x.row(0, 0, 60);
        for (int i = 0; i < 60; i++) {
            x.put(0, i, i < 39 ? 2 : 0);
        }
        x.mend(0, 0, 19);
        due.is("no oil is left by then", x.since(0, 0), -2);
        x.mend(0, 7, 120);
        due.is("behind the 40th", x.since(0, 0), 40);
        x.put(0, 39, 2);
        due.is("not behind the 41st", x.since(0, 0), -2);
    }

    private static void best() {
        due.promise("13 best");
        DrownedLight x = new DrownedLight();
        due.is("t -1", x.best(-1, -1), -1);
        due.is("t 5", x.best(5, -1), -1);
        due.is("k -3", x.best(2, -3), -1);
        due.is("k 2 of 2", x.best(2, 2), -1);
        due.is("k 0 of 0", x.best(0, 0), -1);
        due.is("of like ones most oil", x.best(4, 0), 4);
        x.mend(0, 7, 2);
        due.is("without oil all are alike: the least", x.best(4, 0), 0);
        x.mend(0, 7, 50);
        x.lost(19, 0);
        x.lost(28, 0);
        x.lost(35, 1);
        x.lost(26, 1);
        due.is("one night brings one", x.best(1, -1), 1);
        due.is("the least way", x.best(1, 0), 0);
        due.is("four nights, all", x.best(4, -1), 4);
        due.is("oil", x.best(4, -2), 38);
        for (int k = 0; k < 4; k++) {
            due.is("way " + k, x.best(4, k), k);
        }
        x.mend(3, 0, 24);
        // 24 needs three nights left; then one more of the others may come
        due.is("three nights: three near ones", x.best(3, -1), 3);
        due.is("first", x.best(3, 0), 0);
        due.is("last", x.best(3, 2), 2);
        x.mend(0, 3, 1);
        x.mend(1, 3, 1);
        x.mend(2, 3, 1);
        due.is("who is home counts", x.best(2, -1), 3);
        due.is("no need to burn", x.best(2, -2), 50);
        due.is("so it is not lit", x.best(2, 1), 4);
        due.is("none to think of", x.best(0, -1), 3);
        due.is("oil now", x.best(0, -2), 50);
        due.is("nothing came to pass", x.of(3, 0), 24);
    }

    private static void fetch() {
        due.promise("14 fetch");
        DrownedLight x = new DrownedLight();
        due.is("nobody", x.fetch(0, -1), -1);
        x.lost(9, 0);
        due.is("lost -1", x.fetch(-1, -1), -1);
        due.is("k -2", x.fetch(0, -2), -1);
        due.is("four nights", x.fetch(0, -1), 4);
        due.is("up", x.fetch(0, 0), 0);
        due.is("10 is seen from up alone", x.fetch(0, 1), 0);
        due.is("18 on the slant: up is the least", x.fetch(0, 2), 0);
        due.is("19: up", x.fetch(0, 3), 0);
        due.is("no fifth", x.fetch(0, 4), -2);
        due.is("no such", x.fetch(0, Integer.MAX_VALUE), -2);
        x.mend(0, 0, 0);
        due.is("too far", x.fetch(0, -1), -2);
        due.is("too far, no way", x.fetch(0, 0), -2);
        due.is("BAD ahead of NOT", x.fetch(0, -2), -1);
        x.mend(0, 3, 1);
        due.is("home", x.fetch(0, -1), 0);
        due.is("no way", x.fetch(0, 0), -2);
        x.mend(0, 3, 0);
        x.mend(0, 0, 26);
        x.mend(26, 5, 1);
        due.is("by drift: any way, the least", x.fetch(0, 0), 0);
        x.mend(26, 5, 3);
        due.is("by light alone", x.fetch(0, 0), 3);
        x.mend(0, 7, 2);
        due.is("no oil", x.fetch(0, -1), -2);
    }
}
