/** The edges of promises 24 to 30, sentence by sentence: nights in deed, oil, what is led, an image, changes undone. */
public final class DeedsEdgesTest {
    private static final Due due = new Due();
    private static final int MOST = Integer.MAX_VALUE, LEAST = Integer.MIN_VALUE;

    public static void main(String[] args) {
        night();
        nightBurns();
        oil();
        ledEdges();
        led();
        imageAndBack();
        backKeeps();
        cameSince();
        undoEdges();
        undoEach();
        redoEnds();
        fortyAreKept();
        deedsAreNone();
        due.end();
    }

    private static void night() {
        DrownedLight x = due.sentence("24: a WAY (0 .. 4)");
        x = Due.busy();
        String before = Due.portrait(x);
        for (int way : new int[] {-1, 5, LEAST, MOST}) {
            due.is("way " + way, x.night(way), -1);
        }
        due.is("refused, nothing changes", Due.portrait(x), before);
        x = due.sentence("24: each WAY 0 .. 4 is a NIGHT");
        for (int way = 0; way < 5; way++) {
            due.is("nobody, way " + way, x.night(way), 0);
            due.is("nights", x.led(0), way + 1);
        }
        x = due.sentence("24: how many come HOME, of ten all");
        for (int i = 0; i < 10; i++) {
            x.lost(26, i % 4);
        }
        due.is("not by way 1", x.night(1), 0);
        due.is("ten", x.night(3), 10);
        due.is("not again", x.night(3), 0);
        due.is("HOME", x.count(1), 10);
        x = due.sentence("24: who was HOME ahead of it does not come");
        Due.lost(x, 26, 28, 27, 27);
        x.mend(28, 5, 3);
        x.mend(2, 3, 1);
        due.is("one walks, one drifts, one lies there", x.night(3), 3);
        due.is("HOME", x.count(1), 4);
        x = due.sentence("24: in deed as in thought");
        Due.lost(x, 9, 63, 24, 30);
        x.mend(63, 5, 0);
        x.mend(30, 5, 2);
        Due.bytes(x, 0, 0, 3, 4, 1);
        int[] ways = {0, 3, 4, 1};
        int[] cells = new int[16];
        int[] oils = new int[4];
        for (int n = 0; n < 4; n++) {
            oils[n] = x.home(0, n + 1, 1);
            for (int one = 0; one < 4; one++) {
                cells[4 * n + one] = x.later(0, n + 1, one, 0);
            }
        }
        for (int n = 0; n < 4; n++) {
            x.night(ways[n]);
            due.is("OIL behind " + n, x.of(0, 7), oils[n]);
            for (int one = 0; one < 4; one++) {
                due.is("CELL of " + one + " behind " + n, x.of(one, 0), cells[4 * n + one]);
            }
        }
    }

    private static void nightBurns() {
        DrownedLight x = due.sentence("24: it burns, if WAY is not 4 and OIL is BURNS or more");
        Due.lost(x, 26, 25);
        x.mend(0, 7, 2);
        due.is("too little OIL", x.night(3), 0);
        due.is("it is left", x.of(0, 7), 2);
        due.is("it did not burn", x.led(1), 0);
        x.mend(0, 7, 3);
        due.is("WAY 4", x.night(4), 0);
        due.is("it is left", x.of(0, 7), 3);
        due.is("it did not burn", x.led(1), 0);
        due.is("just enough", x.night(3), 1);
        due.is("none is left", x.of(0, 7), 0);
        due.is("it burnt", x.led(1), 1);
        due.is("nobody sees it now", x.night(3), 0);
        due.is("0 is left", x.of(0, 7), 0);
    }

    private static void oil() {
        DrownedLight x = due.sentence("25: OIL is given (1 .. 999)");
        for (int more : new int[] {0, -1, 1000, LEAST, MOST}) {
            due.is("oil " + more, x.oil(more), -1);
        }
        due.is("refused, it is as it was", x.of(0, 7), 50);
        due.is("refused, none was given", x.led(4), 0);
        due.is("1", x.oil(1), 51);
        x.mend(0, 7, 0);
        due.is("999", x.oil(999), 999);
        x = due.sentence("25: OIL then (999 at most)");
        x.mend(0, 7, 998);
        due.is("just 999", x.oil(1), 999);
        due.is("no more", x.oil(1), 999);
        due.is("nor by 999", x.oil(999), 999);
        due.is("is 999", x.of(0, 7), 999);
        x.mend(0, 7, 500);
        due.is("one too many", x.oil(500), 999);
        x.mend(0, 7, 500);
        due.is("just as many", x.oil(499), 999);
        x.mend(0, 7, 500);
        due.is("one less", x.oil(498), 998);
    }

    private static void ledEdges() {
        DrownedLight x = due.sentence("26: what 0 .. 4");
        for (int what : new int[] {-1, 5, LEAST, MOST}) {
            due.is("led " + what, x.led(what), -1);
        }
        for (int what = 0; what < 5; what++) {
            due.is("led " + what, x.led(what), 0);
        }
    }

    private static void ledIs(DrownedLight x, int nights, int burnt, int steps, int home, int given) {
        due.is("nights", x.led(0), nights);
        due.is("burnt", x.led(1), burnt);
        due.is("steps", x.led(2), steps);
        due.is("HOME", x.led(3), home);
        due.is("OIL given", x.led(4), given);
    }

    private static void led() {
        DrownedLight x = due.sentence("26: nights, nights that burnt, steps walked, those come HOME, OIL given");
        Due.lost(x, 24, 25, 26);
        x.night(4);
        ledIs(x, 1, 0, 0, 0, 0);
        x.night(3);
        ledIs(x, 2, 1, 3, 1, 0);
        x.night(1);
        ledIs(x, 3, 2, 3, 1, 0);
        x.night(3);
        ledIs(x, 4, 3, 5, 2, 0);
        x.oil(7);
        x.oil(8);
        ledIs(x, 4, 3, 5, 2, 15);
        x.night(3);
        x.night(3);
        ledIs(x, 6, 5, 6, 3, 15);
        x = due.sentence("26: drift is no step, though he comes HOME by it");
        Due.lost(x, 26);
        x.mend(26, 5, 1);
        x.night(4);
        ledIs(x, 1, 0, 0, 1, 0);
        x = due.sentence("26: OIL given counts, also what goes over 999");
        x.mend(0, 7, 990);
        x.oil(20);
        ledIs(x, 0, 0, 0, 0, 20);
        x = due.sentence("26: told by mend() nobody came HOME, and no OIL was given");
        Due.lost(x, 5);
        x.mend(0, 3, 1);
        x.mend(0, 7, 90);
        ledIs(x, 0, 0, 0, 0, 0);
        x = due.sentence("26: he who comes HOME twice counts twice");
        Due.lost(x, 26);
        x.night(3);
        x.mend(0, 3, 0);
        x.night(4);
        ledIs(x, 2, 1, 1, 2, 0);
    }

    private static void imageAndBack() {
        DrownedLight x = due.sentence("28: STATE: there is none");
        due.is("none", x.back(), -5);
        x.night(4);
        due.is("none behind a night", x.back(), -5);
        due.is("refused, nothing changes", x.led(0), 1);
        x = due.sentence("27: nights; 28: nights");
        due.is("none yet", x.image(), 0);
        x.night(4);
        x.night(4);
        due.is("laid back", x.back(), 0);
        due.is("led", x.led(0), 0);
        x.night(4);
        due.is("one", x.image(), 1);
        x.night(4);
        due.is("laid back to one", x.back(), 1);
        due.is("laid back again", x.back(), 1);
        x = due.sentence("27: a new one takes the place of the one before");
        Due.lost(x, 25);
        x.image();
        x.night(3);
        x.image();
        x.night(3);
        due.is("the new one", x.back(), 1);
        due.is("his CELL", x.of(0, 0), 26);
        due.is("not HOME", x.of(0, 3), 0);
        x = due.sentence("27: the image does not go along with the sea");
        Due.lost(x, 25);
        x.image();
        x.mend(0, 0, 3);
        x.mend(0, 3, 1);
        x.mend(0, 7, 1);
        x.oil(4);
        x.night(0);
        x.back();
        due.is("CELL", x.of(0, 0), 25);
        due.is("HOME", x.of(0, 3), 0);
        due.is("OIL", x.of(0, 7), 50);
        due.is("given", x.led(4), 0);
    }

    private static void backKeeps() {
        DrownedLight x = due.sentence("28: CELLS, HOME, OIL, what LED tells: nothing else");
        Due.lost(x, 25, 12);
        x.image();
        x.mend(0, 1, 3);
        x.mend(0, 2, 7);
        x.mend(12, 4, 5);
        x.mend(12, 5, 2);
        x.mend(0, 6, 30);
        x.mend(0, 8, 4);
        x.mend(0, 9, 5);
        Due.law(x, "8");
        x.feed('1');
        x.body(2);
        x.act(0, 1, 1);
        x.row(0, 0, 2);
        x.undo();
        x.back();
        int[] want = {25, 3, 7, 0};
        for (int what = 0; what < 4; what++) {
            due.is("of(0, " + what + ")", x.of(0, what), want[what]);
        }
        due.is("DEPTH", x.of(12, 4), 5);
        due.is("DRIFT", x.of(12, 5), 2);
        due.is("THE LAMP", x.of(0, 6), 30);
        due.is("BURNS", x.of(0, 8), 4);
        due.is("WALKS", x.of(0, 9), 3);
        due.is("THE LAW", x.draws(0), 8);
        due.is("THE TAPE", x.count(2), 1);
        due.is("changes", x.count(3), 6);
        due.is("bodies", x.count(4), 1);
        due.is("THE TRACE", x.trace(0), 30);
        due.is("a SHELF", x.put(0, 1, 1), 1);
        due.is("what was undone may be done again", x.redo(), 0);
    }

    private static void cameSince() {
        DrownedLight x = due.sentence("28: (LOST ones that came since as they are)");
        Due.lost(x, 25);
        x.image();
        Due.lost(x, 26, 28, 5);
        x.night(3);
        x.mend(2, 3, 1);
        due.is("nights", x.back(), 0);
        due.is("they are four", x.count(0), 4);
        int[] cells = {25, 27, 28, 5};
        int[] home = {0, 1, 1, 0};
        for (int one = 0; one < 4; one++) {
            due.is("CELL of " + one, x.of(one, 0), cells[one]);
            due.is("HOME of " + one, x.of(one, 3), home[one]);
        }
        due.is("those come HOME are laid back all the same", x.led(3), 0);
        x = due.sentence("28: all ten came since");
        x.image();
        for (int i = 0; i < 10; i++) {
            x.lost(26, 0);
        }
        x.night(3);
        due.is("nights", x.back(), 0);
        due.is("ten are HOME", x.count(1), 10);
        x = due.sentence("28: all ten were there");
        for (int i = 0; i < 10; i++) {
            x.lost(26, 0);
        }
        x.image();
        x.night(3);
        due.is("nights", x.back(), 0);
        due.is("none is HOME", x.count(1), 0);
        due.is("the last one's CELL", x.of(9, 0), 26);
    }

    private static void undoEdges() {
        DrownedLight x = due.sentence("29, 30: STATE: none");
        due.is("undo", x.undo(), -5);
        due.is("redo", x.redo(), -5);
        x.mend(0, 7, 60);
        due.is("nothing was undone", x.redo(), -5);
        due.is("undo", x.undo(), 0);
        due.is("no more", x.undo(), -5);
        due.is("refused, nothing changes", x.of(0, 7), 50);
        due.is("redo", x.redo(), 0);
        due.is("no more again", x.redo(), -5);
        due.is("refused, nothing changes again", x.of(0, 7), 60);
        x = due.sentence("29: the latest first; how many may still be");
        x.mend(0, 7, 60);
        x.mend(0, 8, 5);
        x.mend(0, 7, 70);
        due.is("the third", x.undo(), 2);
        due.is("OIL", x.of(0, 7), 60);
        due.is("BURNS stands", x.of(0, 8), 5);
        due.is("the second", x.undo(), 1);
        due.is("BURNS", x.of(0, 8), 3);
        due.is("the first", x.undo(), 0);
        due.is("OIL at first", x.of(0, 7), 50);
        x = due.sentence("30: in their order; how many may still be");
        x.mend(0, 7, 60);
        x.mend(0, 8, 5);
        x.mend(0, 7, 70);
        x.undo();
        x.undo();
        x.undo();
        due.is("the first", x.redo(), 2);
        due.is("OIL", x.of(0, 7), 60);
        due.is("the second", x.redo(), 1);
        due.is("BURNS", x.of(0, 8), 5);
        due.is("the third", x.redo(), 0);
        due.is("OIL last", x.of(0, 7), 70);
        due.is("all may be undone", x.count(3), 3);
    }

    private static void undoEach() {
        for (int what = 0; what < 10; what++) {
            DrownedLight x = due.sentence("29, 30: all numbers of mend(): what " + what);
            Due.lost(x, 9, 10);
            int number = what < 6 ? 1 : 0;
            int was = x.mend(number, what, 1);
            if (was == 1) {
                was = x.mend(number, what, 2);
            }
            int became = x.of(number, what);
            due.is("undo", x.undo(), 0);
            due.is("is as it was", x.of(number, what), was);
            due.is("redo", x.redo(), 0);
            due.is("is as it became", x.of(number, what), became);
        }
        DrownedLight x = due.sentence("29: telling the same number is no change");
        x.mend(0, 7, 50);
        x.mend(0, 6, 27);
        x.mend(63, 5, 4);
        due.is("none", x.undo(), -5);
        x = due.sentence("29: a refused one is no change");
        x.mend(0, 7, 1000);
        x.mend(0, 0, 1);
        x.mend(64, 4, 1);
        due.is("none", x.undo(), -5);
    }

    private static void redoEnds() {
        DrownedLight x = due.sentence("30: as long as no other came behind");
        x.mend(0, 7, 60);
        x.mend(0, 7, 70);
        x.undo();
        x.mend(0, 8, 5);
        due.is("another came", x.redo(), -5);
        due.is("two may be undone", x.count(3), 2);
        due.is("the other one", x.undo(), 1);
        due.is("BURNS", x.of(0, 8), 3);
        due.is("the first", x.undo(), 0);
        due.is("OIL", x.of(0, 7), 50);
        due.is("done again: the first", x.redo(), 1);
        due.is("OIL again", x.of(0, 7), 60);
        x = due.sentence("30: the same number or a refused one is no other");
        x.mend(0, 7, 60);
        x.undo();
        x.mend(0, 7, 50);
        x.mend(0, 7, 1000);
        due.is("still", x.redo(), 0);
        due.is("OIL", x.of(0, 7), 60);
        x = due.sentence("30: behind undo and redo another undo goes on");
        x.mend(0, 7, 60);
        x.undo();
        x.redo();
        due.is("undo", x.undo(), 0);
        due.is("OIL", x.of(0, 7), 50);
    }

    private static void fortyAreKept() {
        DrownedLight x = due.sentence("29: 40 at most are kept");
        for (int i = 0; i < 45; i++) {
            x.mend(i, i % 3 == 0 ? 5 : 4, i % 3 + 1);
        }
        due.is("40", x.count(3), 40);
        for (int i = 44; i >= 5; i--) {
            due.is("undo", x.undo(), i - 5);
            due.is("undone is " + i, x.of(i, i % 3 == 0 ? 5 : 4), i % 3 == 0 ? 4 : 0);
        }
        due.is("no more", x.undo(), -5);
        for (int i = 0; i < 5; i++) {
            due.is("the oldest stand", x.of(i, i % 3 == 0 ? 5 : 4), i % 3 + 1);
        }
        for (int i = 5; i < 45; i++) {
            due.is("redo", x.redo(), 44 - i);
            due.is("done again is " + i, x.of(i, i % 3 == 0 ? 5 : 4), i % 3 + 1);
        }
        due.is("no more again", x.redo(), -5);
        x = due.sentence("29: just 40: none is lost");
        for (int i = 1; i <= 40; i++) {
            x.mend(0, 7, 50 + i);
        }
        for (int i = 39; i >= 0; i--) {
            due.is("undo", x.undo(), i);
        }
        due.is("OIL at first", x.of(0, 7), 50);
        x = due.sentence("29: the 41st puts the first out");
        for (int i = 1; i <= 41; i++) {
            x.mend(0, 7, 50 + i);
        }
        for (int i = 39; i >= 0; i--) {
            due.is("undo", x.undo(), i);
        }
        due.is("no more", x.undo(), -5);
        due.is("the first stands", x.of(0, 7), 51);
    }

    private static void deedsAreNone() {
        DrownedLight x = due.sentence("29: deeds are none (CELLS, HOME, OIL by them, too)");
        Due.lost(x, 25, 26);
        x.night(3);
        x.oil(7);
        Due.bytes(x, 0, 1, 1, 1);
        x.losts(0, 0, 1);
        x.image();
        x.back();
        due.is("none", x.count(3), 0);
        due.is("undo", x.undo(), -5);
        due.is("HOME", x.of(1, 3), 1);
        due.is("OIL", x.of(0, 7), 54);
        x = due.sentence("30: a deed is no other that came behind");
        Due.lost(x, 25);
        x.mend(0, 7, 60);
        x.undo();
        x.night(3);
        x.oil(7);
        x.lost(5, 0);
        x.image();
        x.back();
        due.is("done again", x.redo(), 0);
        due.is("OIL becomes what was told", x.of(0, 7), 60);
        x = due.sentence("29: behind a deed the number becomes what it was by mend()");
        Due.lost(x, 20);
        x.mend(0, 0, 25);
        x.night(3);
        due.is("undo", x.undo(), 0);
        due.is("CELL", x.of(0, 0), 20);
        due.is("redo", x.redo(), 0);
        due.is("CELL again", x.of(0, 0), 25);
    }
}
