import java.util.Random;

/**
 * Each method with any arguments, the edges of all ranges and what is far outside them: no call throws,
 * and while an object may be asked (512 calls) each answer is that of the plain model.
 */
public final class AnyCallTest {
    private static final Due due = new Due();
    private static final int CALLS = 512, RUNS = 1200, METHODS = 40;
    private static final int[] EDGES = {Integer.MIN_VALUE, Integer.MIN_VALUE + 1, -10101, -129, -128, -64, -3, -2, -1, 0, 1, 2,
        3, 4, 5, 6, 7, 8, 9, 10, 11, 12, 20, 21, 24, 25, 27, 30, 31, 39, 40, 41, 48, 49, 50, 51, 59, 60, 61, 63, 64, 65, 119, 120,
        121, 127, 128, 255, 256, 998, 999, 1000, 1001, 1022, 1023, 1024, 9999, 10000, 10001, 10100, 10112, 10113, 13000, 13100,
        303012, 313012, 32767, 32768, 65535, 65536, Integer.MAX_VALUE - 1, Integer.MAX_VALUE};

    private static Random random;
    private static DrownedLight x;
    private static PlainModel m;

    public static void main(String[] args) {
        for (int seed = 0; seed < RUNS && !due.hasWrong(); seed++) {
            due.promise("seed " + seed);
            random = new Random(seed);
            x = new DrownedLight();
            m = new PlainModel();
            for (int call = 0; call < CALLS && !due.hasWrong(); call++) {
                one(random.nextInt(METHODS), seed % 3);
            }
        }
        longRun();
        due.end();
    }

    /** Behind the 512th call the answers are free, but no call throws even then. */
    private static void longRun() {
        due.promise("40000 calls of one object");
        random = new Random(-1);
        x = new DrownedLight();
        m = new PlainModel();
        int thrown = 0;
        for (int call = 0; call < 40000; call++) {
            try {
                one(random.nextInt(METHODS), call % 3);
            } catch (RuntimeException e) {
                thrown++;
                e.printStackTrace(System.out);
            }
        }
        due.is("thrown", thrown, 0);
    }

    /** An edge, or a small number: the rarer the edges, the farther a run goes. */
    private static int any(int rarely) {
        return random.nextInt(1 + 4 * rarely) == 0 ? EDGES[random.nextInt(EDGES.length)] : random.nextInt(5);
    }

    private static void same(String name, long got, long want, int... arguments) {
        StringBuilder call = new StringBuilder(name).append('(');
        for (int i = 0; i < arguments.length; i++) {
            call.append(i > 0 ? ", " : "").append(arguments[i]);
        }
        due.is(call.append(')').toString(), got, want);
    }

    private static void one(int method, int rarely) {
        int a = any(rarely), b = any(rarely), c = any(rarely), d = any(rarely), e = any(rarely);
        switch (method) {
            case 0: same("lost", x.lost(a, b), m.lost(a, b), a, b); break;
            case 1: same("losts", x.losts(a, b, c), m.losts(a, b, c), a, b, c); break;
            case 2: same("mend", x.mend(a, b, c), m.mend(a, b, c), a, b, c); break;
            case 3: same("of", x.of(a, b), m.of(a, b), a, b); break;
            case 4: same("feed", x.feed(a), m.feed(a), a); break;
            case 5: same("law", x.law(), m.law()); break;
            case 6: same("draws", x.draws(a), m.draws(a), a); break;
            case 7: same("seen", x.seen(a), m.seen(a), a); break;
            case 8: same("later", x.later(a, b, c, d), m.later(a, b, c, d), a, b, c, d); break;
            case 9: same("home", x.home(a, b, c), m.home(a, b, c), a, b, c); break;
            case 10: same("since", x.since(a, b), m.since(a, b), a, b); break;
            case 11: same("best", x.best(a, b), m.best(a, b), a, b); break;
            case 12: same("fetch", x.fetch(a, b), m.fetch(a, b), a, b); break;
            case 13: same("drifted", x.drifted(a, b), m.drifted(a, b), a, b); break;
            case 14: same("ashore", x.ashore(a, b, c), m.ashore(a, b, c), a, b, c); break;
            case 15: same("order", x.order(a, b), m.order(a, b), a, b); break;
            case 16: same("clash", x.clash(a, b), m.clash(a, b), a, b); break;
            case 17: same("may", x.may(a, b), m.may(a, b), a, b); break;
            case 18: same("share", x.share(a, b), m.share(a, b), a, b); break;
            case 19: same("heard", x.heard(a, b), m.heard(a, b), a, b); break;
            default: other(method, a, b, c, d, e); break;
        }
    }

    private static void other(int method, int a, int b, int c, int d, int e) {
        switch (method) {
            case 20: same("byTurns", x.byTurns(a, b, c), m.byTurns(a, b, c), a, b, c); break;
            case 21: same("drawn", x.drawn(a, b, c), m.drawn(a, b, c), a, b, c); break;
            case 22: same("night", x.night(a), m.night(a), a); break;
            case 23: same("oil", x.oil(a), m.oil(a), a); break;
            case 24: same("led", x.led(a), m.led(a), a); break;
            case 25: same("image", x.image(), m.image()); break;
            case 26: same("back", x.back(), m.back()); break;
            case 27: same("undo", x.undo(), m.undo()); break;
            case 28: same("redo", x.redo(), m.redo()); break;
            case 29: same("body", x.body(a), m.body(a), a); break;
            case 30: same("act", x.act(a, b, c), m.act(a, b, c), a, b, c); break;
            case 31: same("trace", x.trace(a), m.trace(a), a); break;
            case 32: same("keep", x.keep(a, b), m.keep(a, b), a, b); break;
            case 33: same("row", x.row(a, b / 2, c), m.row(a, b / 2, c), a, b / 2, c); break;
            case 34: same("put", x.put(a, b, c), m.put(a, b, c), a, b, c); break;
            case 35: same("element", x.element(a, b), m.element(a, b), a, b); break;
            case 36: same("shift", x.shift(a, b, c, d, e), m.shift(a, b, c, d, e), a, b, c, d, e); break;
            case 37: same("taken", x.taken(a, b), m.taken(a, b), a, b); break;
            case 38: same("count", x.count(a), m.count(a), a); break;
            default: same("feed", x.feed('1' + (a & 3)), m.feed('1' + (a & 3)), '1' + (a & 3)); break;
        }
    }
}
