/** Promises 24 to 30: nights in deed, oil, what is led, an image, changes undone. */
public final class DeedsTest {
    private static final Due due = new Due();

    public static void main(String[] args) {
        night();
        oil();
        led();
        image();
        undo();
        fortyChanges();
        changesAndDeeds();
        due.end();
    }

    private static void night() {
        due.promise("24 night");
        DrownedLight x = new DrownedLight();
        due.is("way -1", x.night(-1), -1);
        due.is("way 5", x.night(5), -1);
        due.is("no night was", x.led(0), 0);
        x.lost(19, 0);
        x.lost(11, 0);
        x.lost(18, 1);
        x.lost(26, 2);
        x.mend(26, 5, 1);
        due.is("one walks home, one drifts home", x.night(0), 2);
        due.is("cell", x.of(0, 0), 27);
        due.is("home", x.of(0, 3), 1);
        due.is("drifted home", x.of(3, 3), 1);
        due.is("walked on", x.of(1, 0), 19);
        due.is("walked along X", x.of(2, 0), 19);
        due.is("oil", x.of(0, 7), 47);
        due.is("the two others, together", x.night(0), 2);
        due.is("not again", x.night(0), 0);
        due.is("all home", x.count(1), 4);
        due.is("oil burnt all the same", x.of(0, 7), 41);
        x.mend(0, 3, 0);
        due.is("in the lamp's cell without drift: home again", x.night(4), 1);
        due.is("not lit: no oil", x.of(0, 7), 41);
        x.mend(0, 7, 2);
        x.mend(0, 3, 0);
        x.mend(0, 0, 19);
        due.is("too little oil", x.night(0), 0);
        due.is("it is kept", x.of(0, 7), 2);
        due.is("he stayed", x.of(0, 0), 19);
    }

    private static void oil() {
        due.promise("25 oil");
        DrownedLight x = new DrownedLight();
        due.is("0", x.oil(0), -1);
        due.is("-1", x.oil(-1), -1);
        due.is("1000", x.oil(1000), -1);
        due.is("1", x.oil(1), 51);
        due.is("900", x.oil(900), 951);
        due.is("999 at most", x.oil(999), 999);
        due.is("is so", x.of(0, 7), 999);
        due.is("no change to be undone", x.count(3), 0);
    }

    private static void led() {
        due.promise("26 led");
        DrownedLight x = new DrownedLight();
        due.is("-1", x.led(-1), -1);
        due.is("5", x.led(5), -1);
        x.lost(11, 0);
        x.lost(26, 0);
        x.mend(26, 5, 1);
        x.lost(8, 0);
        x.mend(8, 5, 1);
        x.night(4);
        x.night(0);
        x.oil(30);
        x.oil(7);
        due.is("nights", x.led(0), 2);
        due.is("burnt", x.led(1), 1);
        due.is("steps walked, not drifted", x.led(2), 2);
        due.is("come home", x.led(3), 1);
        due.is("oil given", x.led(4), 37);
        x.mend(0, 3, 1);
        x.mend(0, 7, 2);
        x.night(2);
        due.is("told home is not come home", x.led(3), 1);
        due.is("a night without oil did not burn", x.led(1), 1);
        due.is("nights", x.led(0), 3);
        x.undo();
        due.is("undo leaves it", x.led(4), 37);
        Due.bytes(x, 0, 1, 1, 1);
        x.home(0, 3, 0);
        x.best(4, -1);
        x.byTurns(0, 4, 0);
        x.drawn(1, 10100, -1);
        due.is("thought leaves it", x.led(0), 3);
    }

    private static void image() {
        due.promise("27 image, 28 back");
        DrownedLight x = new DrownedLight();
        due.is("none yet", x.back(), -5);
        x.lost(11, 1);
        x.lost(35, 1);
        x.night(0);
        x.oil(5);
        due.is("kept", x.image(), 1);
        x.night(0);
        x.night(2);
        x.mend(0, 1, 3);
        x.mend(0, 2, 4);
        x.mend(5, 4, 6);
        x.mend(0, 6, 28);
        x.lost(29, 2);
        x.night(1);
        due.is("before: home", x.count(1), 3);
        due.is("back: nights", x.back(), 1);
        due.is("cell", x.of(0, 0), 19);
        due.is("home", x.of(0, 3), 0);
        due.is("the other's cell", x.of(1, 0), 35);
        due.is("oil", x.of(0, 7), 52);
        due.is("nights", x.led(0), 1);
        due.is("burnt", x.led(1), 1);
        due.is("steps", x.led(2), 1);
        due.is("come home", x.led(3), 0);
        due.is("given", x.led(4), 5);
        due.is("who came since: cell", x.of(2, 0), 28);
        due.is("who came since: home", x.of(2, 3), 1);
        due.is("he is still there", x.count(0), 3);
        due.is("parish stays", x.of(0, 1), 3);
        due.is("owed stays", x.of(0, 2), 4);
        due.is("depth stays", x.of(5, 4), 6);
        due.is("lamp stays", x.of(0, 6), 28);
        due.is("changes stay", x.count(3), 4);
        x.night(4);
        x.mend(0, 3, 1);
        due.is("again", x.back(), 1);
        due.is("home again not", x.of(0, 3), 0);
        x.night(4);
        x.night(4);
        due.is("a new one", x.image(), 3);
        x.night(4);
        due.is("back to the new one", x.back(), 3);
        x.mend(2, 3, 0);
        due.is("once more", x.back(), 3);
        due.is("who was there when it was made: home", x.of(2, 3), 1);
    }

    private static void undo() {
        due.promise("29 undo, 30 redo");
        DrownedLight x = new DrownedLight();
        x.lost(5, 1);
        int[] what = {0, 1, 2, 3, 4, 5, 6, 7, 8, 9};
        int[] was = new int[10];
        for (int w : what) {
            was[w] = x.mend(0, w, w == 3 ? 1 : 2);
        }
        due.is("may be undone", x.count(3), 10);
        for (int w = 9; w >= 0; w--) {
            due.is("undo " + w, x.undo(), w);
            due.is("is as it was", x.of(0, w), was[w]);
            due.is("count", x.count(3), w);
        }
        due.is("no more", x.undo(), -5);
        for (int w : what) {
            due.is("redo " + w, x.redo(), 9 - w);
            due.is("is as it became", x.of(0, w), w == 3 ? 1 : 2);
        }
        due.is("no more again", x.redo(), -5);
        x.undo();
        x.undo();
        x.mend(0, 8, 3);
        due.is("telling the same number is none", x.redo(), 1);
        x.undo();
        x.mend(0, 8, 99);
        due.is("a refusal is none", x.redo(), 1);
        x.undo();
        x.mend(0, 8, 5);
        due.is("another came behind", x.redo(), -5);
        due.is("and may be undone", x.undo(), 8);
        due.is("back to what it was", x.of(0, 8), 3);
    }

    private static void fortyChanges() {
        due.promise("29 undo, 40 changes");
        DrownedLight x = new DrownedLight();
        for (int i = 1; i <= 45; i++) {
            x.mend(0, 7, i);
        }
        due.is("40", x.count(3), 40);
        for (int left = 39; left >= 0; left--) {
            due.is("left", x.undo(), left);
            due.is("oil", x.of(0, 7), left + 5);
        }
        due.is("no more", x.undo(), -5);
        for (int left = 39; left >= 0; left--) {
            due.is("left again", x.redo(), left);
        }
        due.is("oil again", x.of(0, 7), 45);
        due.is("no more again", x.redo(), -5);
        x.undo();
        x.mend(0, 7, 100);
        due.is("40 still", x.count(3), 40);
        x.mend(0, 7, 101);
        due.is("40 ever", x.count(3), 40);
    }

    private static void changesAndDeeds() {
        due.promise("29 undo, 30 redo: deeds are none");
        DrownedLight x = new DrownedLight();
        x.lost(20, 0);
        x.mend(0, 0, 11);
        x.mend(0, 7, 30);
        x.undo();
        x.night(0);
        x.oil(4);
        x.lost(1, 1);
        x.image();
        x.back();
        due.is("deeds add none", x.count(3), 1);
        due.is("done again behind deeds", x.redo(), 0);
        due.is("oil is as told", x.of(0, 7), 30);
        due.is("undone", x.undo(), 1);
        due.is("oil is as it was told from", x.of(0, 7), 50);
        x.undo();
        due.is("cell", x.of(0, 0), 20);
    }
}
