/** The edges of promises 10 to 16, sentence by sentence: nights in thought, drift. */
public final class NightsEdgesTest {
    private static final Due due = new Due();
    private static final int MOST = Integer.MAX_VALUE, LEAST = Integer.MIN_VALUE;
    private static final long NO = Long.MIN_VALUE;

    public static void main(String[] args) {
        refusals();
        refusalsOfShelves();
        firstNights();
        nightsEnd();
        burns();
        walks();
        seenOrNot();
        nearer();
        drifts();
        overTheEdge();
        homeThen();
        nothingCame();
        since();
        bestEdges();
        bestOfLikeOnes();
        fetchEdges();
        fetchWays();
        drifted();
        ashoreEdges();
        ashoreCounts();
        ashoreHome();
        due.end();
    }

    private static void refusals() {
        DrownedLight x = due.sentence("10, 11: n 0 .. 40");
        x.lost(9, 0);
        x.row(0, 0, 60);
        for (int n : new int[] {-1, 41, LEAST, MOST}) {
            due.is("later n " + n, x.later(0, n, 0, 0), -1);
            due.is("home n " + n, x.home(0, n, 0), -1);
        }
        due.is("later n 0", x.later(0, 0, 0, 0), 9);
        due.is("later n 40", x.later(0, 40, 0, 0), 27);
        due.is("home n 0", x.home(0, 0, 0), 0);
        due.is("home n 40", x.home(0, 40, 0), 1);
        x = due.sentence("10, 12: a LOST one");
        x.row(0, 0, 3);
        due.is("later: nobody", x.later(0, 0, 0, 0), -1);
        due.is("since: nobody", x.since(0, 0), -1);
        Due.lost(x, 9, 10);
        for (int one : new int[] {-1, 2, LEAST, MOST}) {
            due.is("later " + one, x.later(0, 0, one, 0), -1);
            due.is("since " + one, x.since(0, one), -1);
        }
        due.is("later: the last", x.later(0, 0, 1, 0), 10);
        x = due.sentence("10, 11: what 0, 1");
        x.lost(9, 0);
        x.row(0, 0, 0);
        for (int what : new int[] {-1, 2, LEAST, MOST}) {
            due.is("later what " + what, x.later(0, 0, 0, what), -1);
            due.is("home what " + what, x.home(0, 0, what), -1);
        }
        due.is("CELL", x.later(0, 0, 0, 0), 9);
        due.is("HOME", x.later(0, 0, 0, 1), 0);
        due.is("bits", x.home(0, 0, 0), 0);
        due.is("OIL", x.home(0, 0, 1), 50);
        x.mend(0, 3, 1);
        due.is("HOME 1", x.later(0, 0, 0, 1), 1);
        due.is("bit 0", x.home(0, 0, 0), 1);
        x = due.sentence("11: bits of ten, nobody: 0");
        x.row(0, 0, 0);
        due.is("nobody", x.home(0, 40, 0), 0);
        Due.lost(x, 1, 2, 3, 4, 5, 6, 7, 8, 9, 10);
        for (int one = 0; one < 10; one++) {
            x.mend(one, 3, 1);
        }
        due.is("all ten", x.home(0, 0, 0), 1023);
        x.mend(0, 3, 0);
        due.is("all but the first", x.home(0, 0, 0), 1022);
    }

    private static void refusedAll(DrownedLight x, String name, int shelf, int want) {
        due.is("later of " + name, x.later(shelf, 0, 0, 0), want);
        due.is("home of " + name, x.home(shelf, 0, 0), want);
        due.is("since of " + name, x.since(shelf, 0), want);
        due.is("ashore of " + name, x.ashore(shelf, 0, 0), want);
    }

    private static void refusalsOfShelves() {
        DrownedLight x = due.sentence("10 to 12, 16: SHELVES 0 .. 5");
        x.lost(9, 0);
        for (int shelf : new int[] {-1, 6, LEAST, MOST}) {
            refusedAll(x, "shelf " + shelf, shelf, -1);
        }
        for (int shelf = 0; shelf < 6; shelf++) {
            Due.bytes(x, shelf, 5);
            due.is("later of " + shelf, x.later(shelf, 0, 0, 0), 9);
        }
        x = due.sentence("10 to 12, 16: -11 nothing is there");
        x.lost(9, 0);
        refusedAll(x, "nothing", 3, -11);
        x.row(3, 0, 4);
        x.keep(3, -1);
        refusedAll(x, "nothing again", 3, -11);
        x = due.sentence("10 to 12, 16: -12 (no ROW of bytes)");
        x.lost(9, 0);
        for (int sort = 1; sort < 5; sort++) {
            x.row(3, sort, 4);
            refusedAll(x, "sort " + sort, 3, -12);
        }
        x.body(0);
        x.keep(3, 0);
        refusedAll(x, "a NIGHT", 3, -12);
        x = due.sentence("10 to 12, 16: BAD is named ahead of -11 and -12");
        x.lost(9, 0);
        x.row(1, 4, 4);
        for (int shelf = 0; shelf < 2; shelf++) {
            due.is("later n", x.later(shelf, 41, 0, 0), -1);
            due.is("later lost", x.later(shelf, 0, 1, 0), -1);
            due.is("later what", x.later(shelf, 0, 0, 2), -1);
            due.is("home n", x.home(shelf, -1, 0), -1);
            due.is("home what", x.home(shelf, 0, 2), -1);
            due.is("since lost", x.since(shelf, 1), -1);
            due.is("ashore lost", x.ashore(shelf, 1, 0), -1);
            due.is("ashore what", x.ashore(shelf, 0, 3), -1);
        }
    }

    private static void firstNights() {
        DrownedLight x = due.sentence("10: behind the first n NIGHTS");
        x.lost(24, 0);
        Due.bytes(x, 0, 3, 4, 3, 3);
        int[] cells = {24, 25, 25, 26, 27, 27};
        for (int n = 0; n < 6; n++) {
            due.is("CELL behind " + n, x.later(0, n, 0, 0), cells[n]);
            due.is("HOME behind " + n, x.later(0, n, 0, 1), n < 4 ? 0 : 1);
            due.is("OIL behind " + n, x.home(0, n, 1), 50 - 3 * new int[] {0, 1, 1, 2, 3, 3}[n]);
        }
        due.is("behind 40 of four", x.later(0, 40, 0, 0), 27);
        x = due.sentence("10: without a night all is as now");
        x.lost(24, 0);
        x.row(0, 0, 0);
        due.is("n 0", x.later(0, 0, 0, 0), 24);
        due.is("n 40", x.later(0, 40, 0, 0), 24);
    }

    private static void nightsEnd() {
        due.sentence("10 to 12: NIGHTS end with what is not 0 .. 4");
        for (int end : new int[] {5, 6, 127, -1, -128, 255, 64}) {
            DrownedLight x = new DrownedLight();
            x.lost(25, 0);
            Due.bytes(x, 0, 3, end, 3, 3);
            due.is("CELL, ended by " + end, x.later(0, 40, 0, 0), 26);
            due.is("OIL, ended by " + end, x.home(0, 40, 1), 47);
            due.is("SINCE, ended by " + end, x.since(0, 0), -2);
            Due.bytes(x, 0, end, 3, 3);
            due.is("CELL, ended at once by " + end, x.later(0, 40, 0, 0), 25);
        }
        DrownedLight x = due.sentence("10 to 12: 0 and 4 are WAYS: they do not end it");
        x.lost(25, 0);
        Due.bytes(x, 0, 0, 4, 3, 3);
        due.is("CELL", x.later(0, 40, 0, 0), 27);
        due.is("SINCE", x.since(0, 0), 4);
        x = due.sentence("10 to 12: 40 at most");
        x.mend(0, 8, 1);
        x.lost(25, 0);
        x.row(0, 0, 60);
        for (int i = 0; i < 60; i++) {
            x.put(0, i, i == 39 ? 3 : 4);
        }
        due.is("the 40th is one", x.home(0, 40, 1), 49);
        due.is("not behind 39", x.home(0, 39, 1), 50);
        x.put(0, 39, 4);
        x.put(0, 40, 3);
        due.is("the 41st is none", x.home(0, 40, 1), 50);
    }

    private static void burns() {
        DrownedLight x = due.sentence("10: it burns if OIL is BURNS or more (OIL is BURNS less then)");
        x.lost(26, 0);
        Due.bytes(x, 0, 3);
        for (int burns = 1; burns < 10; burns++) {
            x.mend(0, 8, burns);
            x.mend(0, 7, burns);
            due.is("just BURNS " + burns, x.home(0, 1, 1), 0);
            due.is("it is seen", x.home(0, 1, 0), 1);
            x.mend(0, 7, burns - 1);
            due.is("one less than BURNS " + burns, x.home(0, 1, 1), burns - 1);
            due.is("it is not seen", x.home(0, 1, 0), 0);
            x.mend(0, 7, burns + 1);
            due.is("one more than BURNS " + burns, x.home(0, 1, 1), 1);
        }
        x = due.sentence("10: WAY 4: it is not lit");
        x.lost(26, 0);
        Due.bytes(x, 0, 4);
        due.is("OIL", x.home(0, 1, 1), 50);
        due.is("nobody walks", x.later(0, 1, 0, 0), 26);
        x = due.sentence("10: it burns whether or not one sees it");
        Due.bytes(x, 0, 0, 1, 2, 3);
        due.is("OIL", x.home(0, 4, 1), 38);
    }

    private static void walks() {
        DrownedLight x = due.sentence("10: walks, if THE LAW gives WALKS or more");
        x.lost(25, 0);
        Due.bytes(x, 0, 3);
        for (int walks = 1; walks < 10; walks++) {
            x.mend(0, 9, walks);
            Due.law(x, "" + walks);
            due.is("just WALKS " + walks, x.later(0, 1, 0, 0), 26);
            Due.law(x, walks + "-1");
            due.is("one less than WALKS " + walks, x.later(0, 1, 0, 0), 25);
        }
        Due.law(x, "9999");
        due.is("held to 9, WALKS 9", x.later(0, 1, 0, 0), 26);
        x = due.sentence("10: is not drawn: drifts");
        x.lost(25, 0);
        Due.bytes(x, 0, 3);
        x.mend(25, 5, 2);
        Due.law(x, "2");
        due.is("drifts", x.later(0, 1, 0, 0), 33);
        Due.law(x, "3");
        due.is("is drawn: does not", x.later(0, 1, 0, 0), 26);
    }

    private static void seenOrNot() {
        DrownedLight x = due.sentence("10: he who does not see it drifts");
        x.lost(0, 0);
        int[] cells = {18, 26, 34, 20, 28, 36, 19, 35, 17, 9, 8, 45, 46, 42};
        for (int cell : cells) {
            x.mend(0, 0, cell);
            x.mend(cell, 5, 1);
            for (int way = 0; way < 4; way++) {
                Due.bytes(x, 0, way);
                boolean seen = (x.seen(way) >>> cell & 1) == 1;
                int dx = 3 - cell % 8;
                int dy = 3 - cell / 8;
                int walked = Math.abs(dx) >= Math.abs(dy) ? cell + Integer.signum(dx) : cell + 8 * Integer.signum(dy);
                due.is(cell + " by way " + way, x.later(0, 1, 0, 0), seen ? walked : cell + 1);
            }
        }
        x = due.sentence("10: its own CELL does not see it");
        x.lost(27, 0);
        x.mend(27, 5, 3);
        for (int way = 0; way < 5; way++) {
            Due.bytes(x, 0, way);
            due.is("way " + way, x.later(0, 1, 0, 0), 26);
            due.is("not HOME, way " + way, x.later(0, 1, 0, 1), 0);
        }
    }

    private static void nearer() {
        DrownedLight x = due.sentence("10: one CELL nearer along the one of X and Y in which he is farther off");
        x.mend(0, 6, 29);
        x.mend(0, 9, 1);
        x.lost(0, 0);
        int[][] walks = {{5, 0, 13}, {12, 0, 20}, {3, 0, 11}, {2, 3, 3}, {24, 3, 25}, {32, 3, 33}, {31, 1, 30}, {39, 1, 38},
            {61, 2, 53}, {62, 2, 54}, {60, 2, 52}, {58, 2, 50}, {7, 0, 15}, {23, 1, 22}};
        for (int[] w : walks) {
            x.mend(0, 0, w[0]);
            Due.bytes(x, 0, w[1]);
            due.is("from " + w[0], x.later(0, 1, 0, 0), w[2]);
        }
        x = due.sentence("10: of like ones along X");
        x.mend(0, 6, 29);
        x.lost(0, 0);
        int[][] slant = {{20, 0, 21}, {20, 3, 21}, {11, 0, 12}, {22, 0, 21}, {22, 1, 21}, {15, 1, 14}, {36, 2, 37}, {36, 3, 37},
            {38, 2, 37}, {38, 1, 37}, {2, 0, 3}, {47, 1, 46}};
        for (int[] w : slant) {
            x.mend(0, 0, w[0]);
            Due.bytes(x, 0, w[1]);
            due.is("from " + w[0] + " by way " + w[1], x.later(0, 1, 0, 0), w[2]);
        }
    }

    private static void drifts() {
        DrownedLight x = due.sentence("10: DRIFT 0 up, 1 right, 2 down, 3 left, 4 none");
        x.lost(36, 0);
        Due.bytes(x, 0, 4);
        int[] want = {28, 37, 44, 35, 36};
        for (int drift = 0; drift < 5; drift++) {
            x.mend(36, 5, drift);
            due.is("by " + drift, x.later(0, 1, 0, 0), want[drift]);
        }
        x = due.sentence("10: by DRIFT of his CELL, night by night");
        x.lost(0, 0);
        Due.bytes(x, 0, 4, 4, 4, 4, 4);
        x.mend(0, 5, 1);
        x.mend(1, 5, 2);
        x.mend(9, 5, 3);
        x.mend(8, 5, 0);
        int[] round = {0, 1, 9, 8, 0, 1};
        for (int n = 0; n < 6; n++) {
            due.is("behind " + n, x.later(0, n, 0, 0), round[n]);
        }
    }

    private static void overTheEdge() {
        DrownedLight x = due.sentence("10: over the edge: he stays");
        x.lost(0, 0);
        Due.bytes(x, 0, 4);
        for (int i = 0; i < 8; i++) {
            int[] cells = {i, 8 * i + 7, 56 + i, 8 * i};
            for (int drift = 0; drift < 4; drift++) {
                x.mend(0, 0, cells[drift]);
                x.mend(cells[drift], 5, drift);
                due.is("from " + cells[drift] + " by " + drift, x.later(0, 1, 0, 0), cells[drift]);
            }
        }
        x = due.sentence("10: one CELL from the edge he does not stay");
        x.lost(0, 0);
        Due.bytes(x, 0, 4);
        int[] by = {-8, 1, 8, -1};
        for (int i = 1; i < 7; i++) {
            int[] cells = {8 + i, 8 * i + 6, 48 + i, 8 * i + 1};
            for (int drift = 0; drift < 4; drift++) {
                x.mend(0, 0, cells[drift]);
                x.mend(cells[drift], 5, drift);
                due.is("from " + cells[drift] + " by " + drift, x.later(0, 1, 0, 0), cells[drift] + by[drift]);
            }
        }
    }

    private static void homeThen() {
        DrownedLight x = due.sentence("10: who is in THE LAMP's CELL then is HOME");
        Due.lost(x, 26, 28, 27);
        x.mend(28, 5, 3);
        Due.bytes(x, 0, 3, 4);
        due.is("by walking, by drifting, by lying there", x.home(0, 1, 0), 7);
        due.is("not ahead of the night", x.home(0, 0, 0), 0);
        x.mend(27, 5, 0);
        due.is("he who lay there drifts off", x.home(0, 1, 0), 3);
        x = due.sentence("10: (and stays)");
        Due.lost(x, 26);
        x.mend(27, 5, 0);
        Due.bytes(x, 0, 3, 4, 4, 4);
        due.is("behind four", x.later(0, 4, 0, 0), 27);
        due.is("HOME still", x.later(0, 4, 0, 1), 1);
        x = due.sentence("10: a LOST one who is HOME neither walks nor drifts");
        Due.lost(x, 25);
        x.mend(25, 5, 2);
        x.mend(0, 3, 1);
        Due.bytes(x, 0, 3, 4);
        due.is("he stays", x.later(0, 2, 0, 0), 25);
        due.is("HOME", x.later(0, 2, 0, 1), 1);
        x = due.sentence("10: all as they stand as the night begins");
        Due.lost(x, 25, 25, 26);
        Due.law(x, "n=1?9;a?9;0");
        Due.bytes(x, 0, 3, 3);
        due.is("the two walk together", x.later(0, 1, 0, 0) * 100 + x.later(0, 1, 1, 0), 2626);
        due.is("the one alone does not", x.later(0, 1, 2, 0), 26);
        due.is("of three nobody walks", x.home(0, 2, 0), 0);
    }

    private static void nothingCame() {
        DrownedLight x = due.sentence("10 to 16, 22, 23: in thought nothing comes to pass");
        x = Due.busy();
        String before = Due.portrait(x);
        Due.bytes(x, 1, 3, 2, 1);
        x.later(1, 3, 0, 0);
        x.home(1, 3, 0);
        x.since(1, 0);
        x.best(4, -1);
        x.fetch(0, -1);
        x.drifted(27, 20);
        x.ashore(1, 0, 1);
        x.byTurns(1, 4, 0);
        x.drawn(5, 30512, -1);
        x.share(1, 7);
        x.heard(1, 0);
        x.order(1, 0);
        x.clash(1, 1);
        x.may(1, 0);
        x.draws(1);
        x.seen(3);
        due.is("as before", Due.portrait(x), before);
        due.is("what was undone may be done again", x.redo(), 0);
        due.is("the image is as it was", x.back(), 1);
    }

    private static void since() {
        DrownedLight x = due.sentence("12: (now: 0)");
        Due.lost(x, 5);
        x.mend(0, 3, 1);
        Due.bytes(x, 0, 4, 4);
        due.is("by NIGHTS", x.since(0, 0), 0);
        x.row(0, 0, 0);
        due.is("by none", x.since(0, 0), 0);
        x = due.sentence("12: behind how many NIGHTS one is first HOME");
        Due.lost(x, 26, 25, 27);
        Due.bytes(x, 0, 3, 3, 3, 3);
        due.is("1", x.since(0, 0), 1);
        due.is("2", x.since(0, 1), 2);
        due.is("in THE LAMP's CELL, behind the first", x.since(0, 2), 1);
        x = due.sentence("12: NOT");
        Due.lost(x, 26, 0, 27);
        x.row(0, 0, 0);
        due.is("without NIGHTS", x.since(0, 0), -2);
        due.is("in THE LAMP's CELL without NIGHTS", x.since(0, 2), -2);
        Due.bytes(x, 0, 4, 0, 1, 2);
        due.is("never seen", x.since(0, 0), -2);
        x = due.sentence("12: behind the 40th, not behind the 41st");
        Due.lost(x, 26);
        x.row(0, 0, 60);
        for (int i = 0; i < 60; i++) {
            x.put(0, i, i < 39 ? 4 : 3);
        }
        due.is("the 40th", x.since(0, 0), 40);
        x.put(0, 39, 4);
        due.is("the 41st", x.since(0, 0), -2);
    }

    private static void bestEdges() {
        DrownedLight x = due.sentence("13: t (0 .. 4)");
        for (int t : new int[] {-1, 5, LEAST, MOST}) {
            due.is("how many of " + t, x.best(t, -1), -1);
            due.is("OIL of " + t, x.best(t, -2), -1);
        }
        for (int t = 0; t < 5; t++) {
            due.is("how many of " + t, x.best(t, -1), 0);
            due.is("OIL of " + t, x.best(t, -2), 50);
        }
        x = due.sentence("13: k -1, -2, 0 .. t less 1");
        for (int t = 0; t < 5; t++) {
            for (int k : new int[] {-3, t, t + 1, LEAST, MOST}) {
                due.is("best(" + t + ", " + k + ")", x.best(t, k), -1);
            }
            for (int k = 0; k < t; k++) {
                due.is("best(" + t + ", " + k + ")", x.best(t, k), 4);
            }
        }
        x = due.sentence("13: no night: as it is now");
        Due.lost(x, 27, 5, 6);
        x.mend(2, 3, 1);
        x.mend(0, 7, 999);
        due.is("how many", x.best(0, -1), 1);
        due.is("OIL", x.best(0, -2), 999);
    }

    /** WAYS by k of best(t, k), as a number of t digits. */
    private static int ways(DrownedLight x, int t) {
        int ways = 0;
        for (int k = 0; k < t; k++) {
            ways = ways * 10 + x.best(t, k);
        }
        return ways;
    }

    private static void bestOfLikeOnes() {
        DrownedLight x = due.sentence("13: most are HOME, then most OIL is left");
        Due.lost(x, 26);
        due.is("how many", x.best(3, -1), 1);
        due.is("OIL: it burns once", x.best(3, -2), 47);
        due.is("first lit, then not", ways(x, 3), 344);
        x.lost(25, 1);
        due.is("two: how many", x.best(3, -1), 2);
        due.is("two: OIL", x.best(3, -2), 44);
        due.is("two: lit twice", ways(x, 3), 334);
        x = due.sentence("13: of like ones the least, night by night");
        Due.lost(x, 24);
        x.mend(24, 5, 1);
        x.mend(25, 5, 1);
        due.is("he drifts two nights, then walks", x.best(4, -2), 47);
        due.is("lit the third night", ways(x, 4), 4434);
        x.mend(26, 5, 2);
        x.mend(34, 5, 2);
        due.is("then it must be the third", ways(x, 4), 4434);
        x = due.sentence("13: lit the fourth night alone");
        Due.lost(x, 0);
        x.mend(0, 5, 1);
        x.mend(1, 5, 1);
        x.mend(2, 5, 2);
        x.mend(10, 5, 3);
        x.mend(9, 5, 4);
        Due.law(x, "d=4?9;0");
        due.is("nobody comes HOME in four", x.best(4, -1), 0);
        due.is("so it is never lit", ways(x, 4), 4444);
        x = due.sentence("13: the fourth WAY is the last one");
        Due.lost(x, 9);
        x.mend(9, 5, 1);
        x.mend(10, 5, 1);
        x.mend(11, 5, 2);
        due.is("drifts three nights, walks the fourth", x.best(4, -1), 1);
        due.is("WAYS", ways(x, 4), 4440);
        due.is("OIL", x.best(4, -2), 47);
        due.is("three nights are too few", x.best(3, -1), 0);
        x = due.sentence("13: without OIL all WAYS are alike: the least");
        x.mend(0, 7, 2);
        due.is("WAYS", ways(x, 4), 0);
        due.is("OIL", x.best(4, -2), 2);
    }

    private static void fetchEdges() {
        DrownedLight x = due.sentence("14: BAD: no such one, k below -1");
        due.is("nobody", x.fetch(0, -1), -1);
        Due.lost(x, 26, 0);
        for (int one : new int[] {-1, 2, LEAST, MOST}) {
            due.is("lost " + one, x.fetch(one, -1), -1);
        }
        due.is("k -2", x.fetch(0, -2), -1);
        due.is("k least", x.fetch(0, LEAST), -1);
        due.is("BAD is named first", x.fetch(1, -2), -1);
        x = due.sentence("14: the k-th WAY (NOT: there are not as many)");
        Due.lost(x, 26, 25);
        due.is("of one the first", x.fetch(0, 0), 3);
        due.is("of one the second", x.fetch(0, 1), -2);
        due.is("of one the fifth", x.fetch(0, 4), -2);
        due.is("of one the last there is", x.fetch(0, MOST), -2);
        due.is("of two the second", x.fetch(1, 1), 3);
        due.is("of two the third", x.fetch(1, 2), -2);
        x = due.sentence("14: HOME now: 0 nights");
        Due.lost(x, 0);
        x.mend(0, 3, 1);
        due.is("how many", x.fetch(0, -1), 0);
        due.is("no WAY", x.fetch(0, 0), -2);
        x = due.sentence("14: nights (0 .. 4); NOT");
        Due.lost(x, 11 + 8, 11, 3, 2, 1);
        int[] want = {1, 2, 3, 4, -2};
        for (int one = 0; one < 5; one++) {
            due.is("the " + one + "th", x.fetch(one, -1), want[one]);
        }
        due.is("no WAY of him who can't be fetched", x.fetch(4, 0), -2);
        due.is("nor any other", x.fetch(4, 3), -2);
        x = due.sentence("14: NOT without OIL; in THE LAMP's CELL one night is enough");
        Due.lost(x, 26, 27);
        x.mend(0, 7, 0);
        due.is("without OIL", x.fetch(0, -1), -2);
        due.is("lying there", x.fetch(1, -1), 1);
        due.is("the least WAY", x.fetch(1, 0), 0);
    }

    private static void fetchWays() {
        DrownedLight x = due.sentence("14: of like ones the least, night by night");
        Due.lost(x, 18);
        due.is("two axes: three nights would be too many", x.fetch(0, -1), 2);
        due.is("up is less than left", x.fetch(0, 0), 0);
        due.is("then up", x.fetch(0, 1), 0);
        x.mend(0, 0, 34);
        due.is("down is less than left", x.fetch(0, 0), 2);
        x.mend(0, 0, 20);
        due.is("up is less than right", x.fetch(0, 0), 0);
        x.mend(0, 0, 36);
        due.is("right is less than down", x.fetch(0, 0), 1);
        due.is("then down", x.fetch(0, 1), 2);
        x = due.sentence("14: a WAY that leaves him to drift may be the one");
        Due.lost(x, 24);
        x.mend(24, 5, 1);
        x.mend(25, 5, 2);
        x.mend(33, 5, 3);
        due.is("three nights", x.fetch(0, -1), 3);
        due.is("he drifts as well as he walks: the least", x.fetch(0, 0), 0);
        due.is("he must not drift", x.fetch(0, 1), 3);
        due.is("he must be lit", x.fetch(0, 2), 3);
        x = due.sentence("14: it is not lit where OIL must last");
        Due.lost(x, 24);
        x.mend(24, 5, 1);
        x.mend(0, 7, 6);
        due.is("the first night is dark", x.fetch(0, 0), 4);
        due.is("three nights", x.fetch(0, -1), 3);
    }

    private static void drifted() {
        DrownedLight x = due.sentence("15: CELLS 0 .. 63, n (0 .. 20)");
        for (int cell : new int[] {-1, 64, LEAST, MOST}) {
            due.is("cell " + cell, x.drifted(cell, 0), NO);
        }
        for (int n : new int[] {-1, 21, LEAST, MOST}) {
            due.is("n " + n, x.drifted(0, n), NO);
        }
        due.is("0, none ago", x.drifted(0, 0), 1);
        due.is("0, 20 ago", x.drifted(0, 20), 1);
        due.is("62, 20 ago", x.drifted(62, 20), 1L << 62);
        x = due.sentence("15: n nights ago, just as many");
        for (int cell = 0; cell < 24; cell++) {
            x.mend(cell, 5, cell % 8 < 7 ? 1 : 2);
        }
        due.is("one ago", x.drifted(18, 1), 1 << 17);
        due.is("none but 16 is two ago", x.drifted(18, 2), 1 << 16);
        due.is("three ago nowhere", x.drifted(18, 3), 0);
        due.is("from two sides", x.drifted(15, 1), 1 << 7 | 1 << 14);
        due.is("20 ago nowhere", x.drifted(18, 20), 0);
        x = due.sentence("15: 20 nights along one way round");
        for (int cell = 0; cell < 32; cell++) {
            boolean right = cell / 8 % 2 == 0;
            x.mend(cell, 5, right ? cell % 8 < 7 ? 1 : 2 : cell % 8 > 0 ? 3 : 2);
        }
        due.is("20 CELLS back", x.drifted(24, 20), 1L << 12);
        due.is("19 CELLS back", x.drifted(24, 19), 1L << 11);
        x = due.sentence("15: over the edge he stays");
        x.mend(0, 5, 0);
        x.mend(8, 5, 0);
        due.is("one ago", x.drifted(0, 1), 1 | 1 << 8);
        due.is("two ago", x.drifted(0, 2), 1 | 1 << 8);
        due.is("nobody came to 8", x.drifted(8, 1), 0);
        x = due.sentence("15: THE LAMP's CELL is as any other one");
        for (int cell = 24; cell < 31; cell++) {
            x.mend(cell, 5, 1);
        }
        due.is("to it", x.drifted(27, 2), 1 << 25);
        due.is("through it", x.drifted(28, 2), 1 << 26);
        due.is("from it", x.drifted(28, 1), 1 << 27);
        x = due.sentence("15: CELL 63 is the highest bit");
        x.mend(62, 5, 1);
        due.is("one ago", x.drifted(63, 1), 1L << 63 | 1L << 62);
    }

    private static void ashoreEdges() {
        DrownedLight x = due.sentence("16: BAD: no such one, what 0 .. 2");
        x.row(0, 0, 1);
        due.is("nobody", x.ashore(0, 0, 0), -1);
        Due.lost(x, 0, 5);
        for (int v : new int[] {-1, 3, LEAST, MOST}) {
            due.is("what " + v, x.ashore(0, 0, v), -1);
        }
        for (int v : new int[] {-1, 2, LEAST, MOST}) {
            due.is("lost " + v, x.ashore(0, v, 0), -1);
        }
        x = due.sentence("16: an empty ROW: all is so");
        Due.lost(x, 9);
        x.row(0, 0, 0);
        due.is("judged", x.ashore(0, 0, 0), -2);
        due.is("from how many", x.ashore(0, 0, 1), 64);
        due.is("the least", x.ashore(0, 0, 2), 0);
        x = due.sentence("16: JUDGED: the first that is not so; NOT");
        Due.lost(x, 9);
        x.mend(9, 5, 1);
        x.mend(10, 5, 1);
        Due.bytes(x, 0, 9, 10, 11, 11);
        due.is("all is so", x.ashore(0, 0, 0), -2);
        for (int i = 3; i >= 0; i--) {
            x.put(0, i, 12);
            due.is("place " + i, x.ashore(0, 0, 0), i);
        }
        x = due.sentence("16: FROM: in how many CELLS, the least (NOT)");
        Due.lost(x, 9);
        Due.bytes(x, 0, 63);
        due.is("how many", x.ashore(0, 0, 1), 1);
        due.is("63", x.ashore(0, 0, 2), 63);
        due.is("he is not there", x.ashore(0, 0, 0), 0);
        Due.bytes(x, 0, 63, 62);
        due.is("none", x.ashore(0, 0, 1), 0);
        due.is("no least", x.ashore(0, 0, 2), -2);
        x.mend(55, 5, 2);
        Due.bytes(x, 0, 64, 63);
        due.is("two", x.ashore(0, 0, 1), 2);
        due.is("the least of two", x.ashore(0, 0, 2), 55);
    }

    private static void ashoreCounts() {
        DrownedLight x = due.sentence("16: (64: any)");
        Due.lost(x, 0);
        Due.bytes(x, 0, 64, 64, 64);
        due.is("judged", x.ashore(0, 0, 0), -2);
        due.is("from", x.ashore(0, 0, 1), 64);
        x = due.sentence("16: 65, 127 and bytes below 0 are no CELL");
        Due.lost(x, 0);
        for (int v : new int[] {65, 127, -1, -64, 128, 192}) {
            Due.bytes(x, 0, 64, v);
            due.is("judged by " + v, x.ashore(0, 0, 0), 1);
            due.is("from by " + v, x.ashore(0, 0, 1), 0);
            due.is("least by " + v, x.ashore(0, 0, 2), -2);
        }
        x = due.sentence("16: 49 at most count");
        Due.lost(x, 0);
        x.row(0, 0, 60);
        for (int i = 0; i < 49; i++) {
            x.put(0, i, 64);
        }
        for (int i = 49; i < 60; i++) {
            x.put(0, i, 5);
        }
        due.is("the 50th does not", x.ashore(0, 0, 0), -2);
        due.is("from by 49", x.ashore(0, 0, 1), 64);
        x.put(0, 48, 5);
        due.is("the 49th does", x.ashore(0, 0, 0), 48);
        due.is("from", x.ashore(0, 0, 1), 1);
        due.is("the least", x.ashore(0, 0, 2), 5);
        x = due.sentence("16: behind 0, 1, 2 .. nights without light");
        Due.lost(x, 25);
        Due.bytes(x, 0, 25, 25, 25);
        due.is("the light does not fetch him", x.ashore(0, 0, 0), -2);
    }

    private static void ashoreHome() {
        DrownedLight x = due.sentence("16: (Who is HOME stays.)");
        Due.lost(x, 9);
        x.mend(9, 5, 1);
        x.mend(0, 3, 1);
        Due.bytes(x, 0, 9, 9, 9);
        due.is("he stays", x.ashore(0, 0, 0), -2);
        due.is("from 9", x.ashore(0, 0, 2), 9);
        Due.bytes(x, 0, 64, 10);
        due.is("he does not drift", x.ashore(0, 0, 0), 1);
        due.is("so he would be in 10", x.ashore(0, 0, 2), 10);
        due.is("alone", x.ashore(0, 0, 1), 1);
        x.mend(0, 3, 0);
        due.is("not HOME he drifts", x.ashore(0, 0, 0), -2);
        due.is("from 9 or 10", x.ashore(0, 0, 1), 2);
        x = due.sentence("16: who comes into THE LAMP's CELL in a night is HOME and stays");
        Due.lost(x, 26);
        x.mend(26, 5, 1);
        x.mend(27, 5, 1);
        Due.bytes(x, 0, 26, 27, 27);
        due.is("he stays", x.ashore(0, 0, 0), -2);
        Due.bytes(x, 0, 26, 27, 28);
        due.is("he does not go on", x.ashore(0, 0, 0), 2);
        x.mend(0, 0, 27);
        Due.bytes(x, 0, 27, 28);
        due.is("who lies there from the first drifts", x.ashore(0, 0, 0), -2);
        due.is("from there", x.ashore(0, 0, 2), 27);
    }
}
