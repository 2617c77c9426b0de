/** Promises 15 and 16: drift backward, and by where one was seen. */
public final class DriftTest {
    private static final Due due = new Due();

    public static void main(String[] args) {
        drifted();
        refusals();
        judged();
        lampAndHome();
        due.end();
    }

    private static void drifted() {
        due.promise("15 drifted");
        DrownedLight x = new DrownedLight();
        due.is("cell -1", x.drifted(-1, 0), Long.MIN_VALUE);
        due.is("cell 64", x.drifted(64, 0), Long.MIN_VALUE);
        due.is("n -1", x.drifted(0, -1), Long.MIN_VALUE);
        due.is("n 21", x.drifted(0, 21), Long.MIN_VALUE);
        due.is("a calm sea", x.drifted(5, 20), 1 << 5);
        for (int cell = 0; cell < 8; cell++) {
            x.mend(cell, 5, 1);
        }
        due.is("none ago", x.drifted(7, 0), 1 << 7);
        due.is("over the edge he stays", x.drifted(7, 1), 1 << 7 | 1 << 6);
        due.is("six nights", x.drifted(7, 6), 0xfe);
        due.is("many nights", x.drifted(7, 20), 0xff);
        due.is("from 3 two ago", x.drifted(3, 2), 1 << 1);
        due.is("nowhere", x.drifted(3, 4), 0);
        // the lamp's cell is as any other
        x.mend(0, 6, 3);
        due.is("through the lamp's cell", x.drifted(5, 3), 1 << 2);
        due.is("to the lamp's cell", x.drifted(3, 1), 1 << 2);
        due.is("not long", x.drifted(3, 20), 0);
        x.mend(63, 5, 2);
        x.mend(55, 5, 2);
        due.is("the highest bit", x.drifted(63, 1), 1L << 63 | 1L << 55);
    }

    private static void refusals() {
        due.promise("16 ashore, refusals");
        DrownedLight x = new DrownedLight();
        due.is("nobody", x.ashore(0, 0, 0), -1);
        x.lost(1, 0);
        due.is("nothing", x.ashore(0, 0, 0), -11);
        x.row(0, 2, 1);
        due.is("ints", x.ashore(0, 0, 0), -12);
        due.is("BAD ahead: what", x.ashore(0, 0, 3), -1);
        due.is("BAD ahead: what -1", x.ashore(0, 0, -1), -1);
        due.is("BAD ahead: lost", x.ashore(0, 1, 0), -1);
        due.is("shelf 6", x.ashore(6, 0, 0), -1);
        due.is("shelf -1", x.ashore(-1, 0, 0), -1);
        x.row(0, 0, 0);
        due.is("an empty row is all so", x.ashore(0, 0, 0), -2);
        due.is("anywhere", x.ashore(0, 0, 1), 64);
        due.is("the least", x.ashore(0, 0, 2), 0);
    }

    private static void judged() {
        due.promise("16 ashore");
        DrownedLight x = new DrownedLight();
        for (int cell = 0; cell < 8; cell++) {
            x.mend(cell, 5, 1);
        }
        x.lost(2, 0);
        Due.bytes(x, 0, 64, 3, 64, 5);
        due.is("all so", x.ashore(0, 0, 0), -2);
        due.is("from one", x.ashore(0, 0, 1), 1);
        due.is("from 2", x.ashore(0, 0, 2), 2);
        Due.bytes(x, 0, 64, 3, 3, 6);
        due.is("the first that is not so", x.ashore(0, 0, 0), 2);
        due.is("from none", x.ashore(0, 0, 1), 0);
        due.is("no least", x.ashore(0, 0, 2), -2);
        Due.bytes(x, 0, 3);
        due.is("not so now", x.ashore(0, 0, 0), 0);
        Due.bytes(x, 0, 64, 64, 7);
        due.is("two nights on he is not at 7", x.ashore(0, 0, 0), 2);
        due.is("5, 6, 7 are", x.ashore(0, 0, 1), 3);
        due.is("5", x.ashore(0, 0, 2), 5);
        Due.bytes(x, 0, 65);
        due.is("65 is no cell", x.ashore(0, 0, 0), 0);
        due.is("from nowhere", x.ashore(0, 0, 1), 0);
        Due.bytes(x, 0, 194);
        due.is("194 is a byte below 0", x.ashore(0, 0, 2), -2);
        x.row(0, 0, 60);
        for (int i = 0; i < 60; i++) {
            x.put(0, i, i < 49 ? 64 : 1);
        }
        due.is("49 count", x.ashore(0, 0, 0), -2);
        due.is("49 count, from", x.ashore(0, 0, 1), 64);
        x.put(0, 48, 7);
        due.is("the 49th counts: so", x.ashore(0, 0, 0), -2);
        x.put(0, 48, 6);
        due.is("the 49th counts: not so", x.ashore(0, 0, 0), 48);
    }

    private static void lampAndHome() {
        due.promise("16 ashore, the lamp's cell");
        DrownedLight x = new DrownedLight();
        for (int cell = 0; cell < 8; cell++) {
            x.mend(cell, 5, 1);
        }
        x.mend(0, 6, 4);
        x.lost(3, 0);
        Due.bytes(x, 0, 3, 4, 4, 4);
        due.is("he comes home and stays", x.ashore(0, 0, 0), -2);
        due.is("from 3 alone", x.ashore(0, 0, 1), 1);
        Due.bytes(x, 0, 3, 4, 5);
        due.is("he does not drift on", x.ashore(0, 0, 0), 2);
        x.mend(0, 0, 4);
        Due.bytes(x, 0, 4, 5, 6);
        due.is("not home in the lamp's cell he drifts", x.ashore(0, 0, 0), -2);
        x.mend(0, 3, 1);
        due.is("home he stays", x.ashore(0, 0, 0), 1);
        Due.bytes(x, 0, 64, 1, 1);
        due.is("home he stays where he is", x.ashore(0, 0, 2), 1);
        due.is("in one cell", x.ashore(0, 0, 1), 1);
    }
}
