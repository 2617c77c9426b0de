/** Counts the answers that are not the ones due, and tells each. */
final class Due {
    private String promise = "";
    private int looked;
    private int wrong;
    private int lookedAhead;
    private boolean isSentence;

    void promise(String name) {
        endSentence();
        promise = name;
    }

    /** Opens a sentence of the document, which has a new object of its own. */
    DrownedLight sentence(String words) {
        endSentence();
        promise = words;
        isSentence = true;
        return new DrownedLight();
    }

    /** A sentence of which no answer was looked at was not tested. */
    private void endSentence() {
        if (isSentence && looked == lookedAhead) {
            wrong++;
            System.out.println(promise + ": no answer was looked at");
        }
        isSentence = false;
        lookedAhead = looked;
    }

    void is(String call, long got, long want) {
        looked++;
        if (got != want) {
            wrong++;
            if (wrong <= 60) {
                System.out.println(promise + ": " + call + " answered " + got + ", due is " + want);
            }
        }
    }

    void is(String call, String got, String want) {
        looked++;
        if (!got.equals(want)) {
            wrong++;
            System.out.println(promise + ": " + call + " answered " + got + ", due is " + want);
        }
    }

    boolean hasWrong() {
        return wrong > 0;
    }

    void end() {
        endSentence();
        System.out.println(looked + " answers looked at, " + wrong + " not as due");
        if (wrong > 0) {
            System.exit(1);
        }
    }

    /** Feeds a TEXT, and makes it THE LAW. */
    static int law(DrownedLight x, String text) {
        for (int i = 0; i < text.length(); i++) {
            x.feed(text.charAt(i));
        }
        return x.law();
    }

    /** Puts a ROW of bytes on a SHELF. */
    static void bytes(DrownedLight x, int shelf, int... values) {
        x.row(shelf, 0, values.length);
        for (int i = 0; i < values.length; i++) {
            x.put(shelf, i, values[i]);
        }
    }

    /** LOST ones of PARISH 0 in these CELLS. */
    static void lost(DrownedLight x, int... cells) {
        for (int cell : cells) {
            x.lost(cell, 0);
        }
    }

    /** What calls that change nothing answer about an object: two alike portraits are of one state. */
    static String portrait(DrownedLight x) {
        StringBuilder all = new StringBuilder();
        for (int one = 0; one < x.count(0); one++) {
            all.append(" lost ").append(one);
            for (int what = 0; what < 4; what++) {
                all.append(' ').append(x.of(one, what));
            }
        }
        all.append(" draws ").append(x.draws(0)).append(" sea");
        for (int cell : new int[] {0, 1, 26, 27, 63}) {
            all.append(' ').append(x.of(cell, 4)).append('/').append(x.of(cell, 5));
        }
        for (int what = 6; what < 10; what++) {
            all.append(' ').append(x.of(0, what));
        }
        all.append(" led");
        for (int what = 0; what < 5; what++) {
            all.append(' ').append(x.led(what));
        }
        all.append(" count");
        for (int what = 0; what < 6; what++) {
            all.append(' ').append(x.count(what));
        }
        all.append(" trace ").append(x.trace(0)).append(' ').append(x.trace(1));
        for (int shelf = 0; shelf < 6; shelf++) {
            all.append(" shelf ").append(x.put(shelf, -1, 0)).append(' ').append(x.taken(shelf, 0));
            for (int i = 0; i < 4; i++) {
                all.append(' ').append(x.element(shelf, i));
            }
        }
        return all.toString();
    }

    /** An object of which every part is in use: what a refused call might change can be seen. */
    static DrownedLight busy() {
        DrownedLight x = new DrownedLight();
        x.lost(26, 1);
        x.lost(1, 3);
        x.mend(1, 2, 4);
        x.mend(27, 5, 1);
        x.mend(26, 4, 2);
        x.mend(0, 7, 60);
        law(x, "9-d");
        x.feed('7');
        x.night(3);
        x.oil(5);
        x.image();
        x.night(0);
        x.body(3);
        x.body(7);
        x.act(1, 3, 9);
        x.keep(0, 1);
        bytes(x, 1, 3, 2, 1);
        x.row(2, 3, 4);
        x.put(2, 1, -9);
        x.mend(0, 8, 2);
        x.undo();
        return x;
    }
}
