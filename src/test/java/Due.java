/** Counts the answers that are not the ones due, and tells each. */
final class Due {
    private String promise = "";
    private int looked;
    private int wrong;

    void promise(String name) {
        promise = name;
    }

    void is(String call, long got, long want) {
        looked++;
        if (got != want) {
            wrong++;
            if (wrong <= 60) {
                System.out.println(promise + ": " + call + " answered " + got + ", due is " + want);
            }
        }
    }

    boolean hasWrong() {
        return wrong > 0;
    }

    void end() {
        System.out.println(looked + " answers looked at, " + wrong + " not as due");
        if (wrong > 0) {
            System.exit(1);
        }
    }

    /** Feeds a TEXT, and makes it THE LAW. */
    static int law(DrownedLight x, String text) {
        for (int i = 0; i < text.length(); i++) {
            x.feed(text.charAt(i));
        }
        return x.law();
    }

    /** Puts a ROW of bytes on a SHELF. */
    static void bytes(DrownedLight x, int shelf, int... values) {
        x.row(shelf, 0, values.length);
        for (int i = 0; i < values.length; i++) {
            x.put(shelf, i, values[i]);
        }
    }
}
