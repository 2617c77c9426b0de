/** Promises 17 to 19: orders by rules, clashes, who may come next. */
public final class RulesTest {
    private static final Due due = new Due();

    private static DrownedLight with(int lost) {
        DrownedLight x = new DrownedLight();
        for (int i = 0; i < lost; i++) {
            x.lost(i, 0);
        }
        return x;
    }

    public static void main(String[] args) {
        refusals();
        order();
        clash();
        drop();
        may();
        whatCounts();
        due.end();
    }

    private static void refusals() {
        due.promise("17 order, 18 clash, 19 may: refusals");
        DrownedLight x = with(2);
        due.is("order: nothing", x.order(0, 0), -11);
        due.is("clash: nothing", x.clash(0, 0), -11);
        due.is("may: nothing", x.may(0, 0), -11);
        x.row(0, 3, 2);
        due.is("order: longs", x.order(0, 0), -12);
        due.is("clash: longs", x.clash(0, 1), -12);
        due.is("may: longs", x.may(0, 3), -12);
        due.is("order: BAD ahead", x.order(0, -1), -1);
        due.is("clash: BAD ahead", x.clash(0, 2), -1);
        due.is("clash: BAD ahead, -1", x.clash(0, -1), -1);
        due.is("may: BAD ahead", x.may(0, 4), -1);
        due.is("may: BAD ahead, -1", x.may(0, -1), -1);
        for (int shelf = -1; shelf < 7; shelf += 7) {
            due.is("order: shelf", x.order(shelf, 0), -1);
            due.is("clash: shelf", x.clash(shelf, 0), -1);
            due.is("may: shelf", x.may(shelf, 0), -1);
        }
    }

    private static void orderIs(DrownedLight x, int... want) {
        for (int k = 0; k < want.length; k++) {
            due.is("the " + k + "th", x.order(0, k), want[k]);
        }
        due.is("none behind the last", x.order(0, want.length), -2);
        due.is("none far behind", x.order(0, Integer.MAX_VALUE), -2);
    }

    private static void order() {
        due.promise("17 order");
        DrownedLight x = with(5);
        x.row(0, 0, 0);
        orderIs(x, 0, 1, 2, 3, 4);
        Due.bytes(x, 0, 4, 0);
        orderIs(x, 1, 2, 3, 4, 0);
        Due.bytes(x, 0, 4, 0, 0, 1, 0, 2);
        orderIs(x, 3, 4, 0, 1, 2);
        Due.bytes(x, 0, 2, 0, 1, 3);
        orderIs(x, 1, 2, 0, 3, 4);
        x.mend(1, 3, 1);
        orderIs(x, 1, 2, 0, 3, 4);
        Due.bytes(x, 0, 3, 4, 4, 3);
        due.is("round: not even the first", x.order(0, 0), -2);
        due.is("nobody is lost", emptyOrder(), -2);
    }

    private static int emptyOrder() {
        DrownedLight x = with(0);
        Due.bytes(x, 0, 0, 1);
        return x.order(0, 0);
    }

    private static void clash() {
        due.promise("18 clash, rings");
        DrownedLight x = with(10);
        Due.bytes(x, 0, 0, 1, 1, 2, 0, 2);
        due.is("none", x.clash(0, 0), -2);
        due.is("nothing to drop", x.clash(0, 1), 0);
        Due.bytes(x, 0, 0, 1, 1, 2, 2, 3, 3, 0, 5, 6, 6, 7, 7, 5);
        due.is("of 4 and 3", x.clash(0, 0), 3);
        due.is("one of each", x.clash(0, 1), 2);
        Due.bytes(x, 0, 8, 9, 9, 8);
        due.is("two", x.clash(0, 0), 2);
        Due.bytes(x, 0, 0, 1, 1, 2, 2, 3, 3, 4, 4, 5, 5, 6, 6, 7, 7, 8, 8, 9, 9, 0);
        due.is("all ten", x.clash(0, 0), 10);
        due.is("one breaks it", x.clash(0, 1), 1);
        Due.bytes(x, 0, 0, 1, 1, 2, 2, 3, 3, 1);
        due.is("a ring with a tail", x.clash(0, 0), 3);
    }

    private static void drop() {
        due.promise("18 clash, drop");
        DrownedLight x = with(10);
        Due.bytes(x, 0, 0, 1, 0, 1, 0, 1, 1, 0, 1, 0);
        due.is("one told twice counts twice", x.clash(0, 1), 2);
        Due.bytes(x, 0, 0, 1, 1, 0, 1, 2, 2, 1, 2, 0, 0, 2);
        due.is("three pairs", x.clash(0, 1), 3);
        Due.bytes(x, 0, 0, 1, 1, 2, 2, 0, 1, 3, 3, 0);
        due.is("one rule in two rings", x.clash(0, 1), 1);
        Due.bytes(x, 0, 0, 1, 0, 1, 1, 2, 2, 0, 1, 3, 3, 0);
        due.is("told twice it costs as much as the others", x.clash(0, 1), 2);
        Due.bytes(x, 0, 0, 1, 1, 0, 2, 3, 3, 2, 4, 5, 5, 4, 6, 7, 7, 6, 8, 9, 9, 8);
        due.is("five pairs", x.clash(0, 1), 5);
        due.is("nobody is lost", dropOfNobody(), 0);
    }

    private static int dropOfNobody() {
        DrownedLight x = with(0);
        Due.bytes(x, 0, 0, 1, 1, 0);
        return x.clash(0, 1);
    }

    private static void may() {
        due.promise("19 may");
        DrownedLight x = with(4);
        Due.bytes(x, 0, 0, 1, 1, 2, 3, 2);
        due.is("first", x.may(0, 0), 0b1001);
        due.is("behind 0", x.may(0, 0b0001), 0b1010);
        due.is("behind 0 and 1", x.may(0, 0b0011), 0b1000);
        due.is("behind 0, 1 and 3", x.may(0, 0b1011), 0b0100);
        due.is("all have come", x.may(0, 0b1111), 0);
        due.is("out of order: all ahead of whom have", x.may(0, 0b1010), 0b0101);
        Due.bytes(x, 0, 0, 1, 1, 0);
        due.is("they wait for one another", x.may(0, 0), 0b1100);
        due.is("one has come", x.may(0, 0b0001), 0b1110);
        due.is("16", x.may(0, 16), -1);
    }

    private static void whatCounts() {
        due.promise("17 to 19: what counts");
        DrownedLight x = with(3);
        Due.bytes(x, 0, 1, 1, 2, 3, 9, 0, -1, 0, 0, -1, 2, 1, 1);
        orderIs(x, 0, 2, 1);
        // 24 twos, of which 4 are passed over: the 20 others count
        x.row(0, 0, 60);
        for (int i = 0; i < 60; i += 2) {
            boolean counts = i >= 8;
            x.put(0, i, counts ? 0 : 1);
            x.put(0, i + 1, 1);
        }
        x.put(0, 46, 2);
        x.put(0, 47, 0);
        x.put(0, 48, 1);
        x.put(0, 49, 2);
        due.is("the 20th that counts does count", x.order(0, 0), 2);
        due.is("the 21st does not", x.clash(0, 0), -2);
        x.put(0, 46, 1);
        due.is("and the 20th may clash", x.clash(0, 1), 1);
        // who came since counts, too
        Due.bytes(x, 0, 3, 0);
        due.is("nobody is 3 yet", x.order(0, 0), 0);
        x.lost(5, 0);
        due.is("3 is ahead", x.order(0, 0), 1);
    }
}
