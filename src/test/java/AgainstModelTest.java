import java.util.Random;

/** Many runs of 512 calls by draws of fixed seeds, each answer compared with that of the plain model. */
public final class AgainstModelTest {
    private static final Due due = new Due();
    private static Random random;
    private static DrownedLight x;
    private static PlainModel m;
    private static String log;

    private static final String LETTERS = "dponal0123456789()!-+*/%<=>&|?;";
    private static final String[] LAWS = {
        "9", "d<3?9;o>2?0;5", "9-d", "6-p/2-o/3+n-a", "l/6", "(d+n)*2%10", "!o*9", "-(-p)+5", "n?9;a?1;3", "a=0&n>0|d=1?9",
        "((d)-(((p))))", "!!d*4", "9999*9999*9999", "d/p", "d%o+3", "1?n*3", "0?9", "p=0?8;o=0?7;2", "l>40?9;l>20?4", "a*3+n*3",
    };

    private static int pick(int... from) {
        return from[random.nextInt(from.length)];
    }

    /** 0 .. n less 1 mostly, or something near, or anything. */
    private static int about(int n) {
        int die = random.nextInt(40);
        if (die == 0) {
            return pick(-1, n, n + 1, -2, Integer.MAX_VALUE, Integer.MIN_VALUE, 64, 255, 1 << 16, -65536);
        }
        return random.nextInt(n);
    }

    private static int soul() {
        int n = m.now.souls.size();
        return n == 0 || random.nextInt(25) == 0 ? about(11) : random.nextInt(n);
    }

    private static void same(String call, long got, long want) {
        log = call;
        due.is("seed " + seed + ": " + call, got, want);
    }

    private static int seed;

    private static void mendCall() {
        int what = about(10);
        int kind = what < 0 || what > 9 ? 0 : what;
        int number = kind < 4 ? soul() : kind < 6 ? about(64) : about(30) == 5 ? 1 : 0;
        int top = PlainModel.RANGES[kind][1];
        int v = about(top + 1);
        if (kind == 8 || kind == 9) {
            v = random.nextInt(3) > 0 ? random.nextInt(4) : v;
        }
        if (kind == 3) {
            v = random.nextInt(3) == 0 ? 1 : 0;
        }
        same("mend(" + number + ", " + what + ", " + v + ")", x.mend(number, what, v), m.mend(number, what, v));
        number = random.nextInt(10);
        what = about(10);
        same("of(" + number + ", " + what + ")", x.of(number, what), m.of(number, what));
    }

    private static int feedText() {
        String text;
        int die = random.nextInt(4);
        if (die == 0) {
            text = LAWS[random.nextInt(LAWS.length)];
        } else if (die == 1) {
            StringBuilder b = new StringBuilder(LAWS[random.nextInt(LAWS.length)]);
            int times = 1 + random.nextInt(3);
            for (int i = 0; i < times && b.length() > 0; i++) {
                b.setCharAt(random.nextInt(b.length()), LETTERS.charAt(random.nextInt(LETTERS.length())));
            }
            text = b.toString();
        } else {
            text = grown(0, 1 + random.nextInt(3));
            while (random.nextInt(2) == 0) {
                text += ";" + grown(0, 2) + (random.nextBoolean() ? "?" + grown(0, 2) : "");
            }
        }
        for (int i = 0; i < text.length() && i < 125; i++) {
            same("feed " + text.charAt(i), x.feed(text.charAt(i)), m.feed(text.charAt(i)));
        }
        same("law() of " + text, x.law(), m.law());
        return Math.min(125, text.length());
    }

    /** A TEXT's E, sometimes with more open than may be. */
    private static String grown(int tier, int more) {
        String[] signs = {"|", "&", "<=>", "+-", "*/%"};
        if (tier == 5) {
            switch (random.nextInt(more > 0 ? 6 : 3)) {
                case 0: return "" + random.nextInt(pick(10, 100, 10000, 20000));
                case 1:
                case 2: return "" + LETTERS.charAt(random.nextInt(6));
                case 3: return "!" + grown(5, more - 1);
                case 4: return "-" + grown(5, more - 1);
                default: return "(" + grown(0, more - 1) + ")";
            }
        }
        String text = grown(tier + 1, more);
        while (random.nextInt(4) == 0) {
            text += signs[tier].charAt(random.nextInt(signs[tier].length())) + grown(tier + 1, more);
            if (tier == 2 && random.nextInt(8) > 0) {
                break;
            }
        }
        return text;
    }

    private static int rowOf(int kind) {
        int shelf = random.nextInt(6);
        int n = kind == 3 ? 3 * random.nextInt(5) + pick(0, 0, 1, 2) : kind == 1 ? random.nextInt(26) : random.nextInt(16);
        same("row(" + shelf + ", 0, " + n + ")", x.row(shelf, 0, n), m.row(shelf, 0, n));
        boolean rising = random.nextBoolean();
        int cell = m.now.souls.isEmpty() ? 5 : m.now.souls.get(random.nextInt(m.now.souls.size())).cell;
        for (int i = 0; i < n; i++) {
            int v;
            switch (kind) {
                case 0: v = random.nextInt(30) == 0 ? pick(5, -1, 127, 200) : random.nextInt(5); break;
                case 1:
                    v = random.nextInt(Math.max(2, m.now.souls.size())) - (random.nextInt(30) == 0 ? 1 : 0);
                    if (rising && i % 2 == 1) {
                        v = Math.min(10, v + 1 + (int) m.element(shelf, i - 1));
                    }
                    break;
                case 2:
                    v = random.nextInt(3) == 0 ? 64 : random.nextInt(20) == 0 ? pick(65, -1, random.nextInt(64)) : cell;
                    cell = m.drifts(cell);
                    break;
                default: v = i % 3 == 0 ? about(64) : i % 3 == 1 ? about(4) : about(10); break;
            }
            same("put(" + shelf + ", " + i + ", " + v + ")", x.put(shelf, i, v), m.put(shelf, i, v));
        }
        for (int i = 0; i < 4; i++) {
            askedOf(shelf, kind == 0 ? pick(0, 1, 2) : kind == 1 ? pick(4, 5, 6) : kind == 2 ? 3 : pick(7, 0));
        }
        return n + 5;
    }

    private static void asked(int shelf) {
        askedOf(shelf, random.nextInt(8));
    }

    private static void askedOf(int shelf, int die) {
        int a = about(41), b = soul(), c = about(2);
        switch (die) {
            case 0: same("later " + a + " " + b, x.later(shelf, a, b, c), m.later(shelf, a, b, c)); break;
            case 1: same("home " + a, x.home(shelf, a, c), m.home(shelf, a, c)); break;
            case 2: same("since " + b, x.since(shelf, b), m.since(shelf, b)); break;
            case 3: c = about(3); same("ashore " + b + " " + c, x.ashore(shelf, b, c), m.ashore(shelf, b, c)); break;
            case 4: a = about(11); same("order " + a, x.order(shelf, a), m.order(shelf, a)); break;
            case 5: same("clash " + c, x.clash(shelf, c), m.clash(shelf, c)); break;
            case 6: a = about(1 << Math.max(1, m.now.souls.size())); same("may " + a, x.may(shelf, a), m.may(shelf, a)); break;
            default: a = about(8) - pick(0, 0, 0, 0, 0, 2); b = about(11); same("losts " + a + " " + b, x.losts(shelf, a, b), m.losts(shelf, a, b)); break;
        }
    }

    private static void one(int die) {
        int a = random.nextInt(), b = random.nextInt(), c;
        switch (die) {
            case 0: a = about(64); b = about(4); same("lost " + a + " " + b, x.lost(a, b), m.lost(a, b)); break;
            case 1:
            case 2:
            case 3: mendCall(); break;
            case 4: a = soul(); same("draws " + a, x.draws(a), m.draws(a)); break;
            case 5: a = about(4); same("seen " + a, x.seen(a), m.seen(a)); break;
            case 6: asked(about(6)); break;
            case 7: a = pick(0, 1, 1, 2, 2, 3, 3, 4, 5); b = about(6) - 2; same("best " + a + " " + b, x.best(a, b), m.best(a, b)); break;
            case 8: a = soul(); b = about(6) - 1; same("fetch " + a + " " + b, x.fetch(a, b), m.fetch(a, b)); break;
            case 9: a = about(64); b = about(21); same("drifted " + a + " " + b, x.drifted(a, b), m.drifted(a, b)); break;
            case 10: a = about(4); b = about(10000); same("share " + a + " " + b, x.share(a, b), m.share(a, b)); break;
            case 11: a = about(4); b = about(2); same("heard " + a + " " + b, x.heard(a, b), m.heard(a, b)); break;
            case 12: a = about(4); b = about(4) + 1; c = about(2);
                same("byTurns " + a + " " + b + " " + c, x.byTurns(a, b, c), m.byTurns(a, b, c)); break;
            case 13: b = about(8) * 10000 + about(9) * 100 + about(14); c = random.nextBoolean() ? -1 : soul();
                same("drawn " + a + " " + b + " " + c, x.drawn(a, b, c), m.drawn(a, b, c)); break;
            case 14: a = about(5); same("night " + a, x.night(a), m.night(a)); break;
            case 15: a = pick(1, 5, 9, 0, 1000, 999, 30); same("oil " + a, x.oil(a), m.oil(a)); break;
            case 16: a = about(5); same("led " + a, x.led(a), m.led(a)); break;
            case 17: same("image", x.image(), m.image()); break;
            case 18: same("back", x.back(), m.back()); break;
            case 19: same("undo", x.undo(), m.undo()); break;
            case 20: same("redo", x.redo(), m.redo()); break;
            case 21: a = about(8); same("body " + a, x.body(a), m.body(a)); break;
            case 22: b = about(Math.max(1, m.nights.size())); c = about(4);
                same("act " + b + " " + c + " " + a, x.act(b, c, a), m.act(b, c, a));
                for (int i = -1; i < 16; i++) {
                    same("trace " + i, x.trace(i), m.trace(i));
                }
                break;
            case 23: a = about(6); b = about(Math.max(1, m.nights.size()) + 1) - 1;
                same("keep " + a + " " + b, x.keep(a, b), m.keep(a, b)); break;
            case 24: a = about(6); b = about(5); c = about(61); same("row " + a + " " + b + " " + c, x.row(a, b, c), m.row(a, b, c)); break;
            case 25: long v = random.nextBoolean() ? random.nextLong() : pick(0, 1, 128, 256, 65536);
                a = about(6); b = about(20); same("put " + a + " " + b + " " + v, x.put(a, b, v), m.put(a, b, v)); break;
            case 26: a = about(6); b = about(20); same("element " + a + " " + b, x.element(a, b), m.element(a, b)); break;
            case 27: a = about(6); b = about(6); c = about(10); int d = about(10), n = about(10) - 1;
                same("shift " + a + " " + c + " " + b + " " + d + " " + n, x.shift(a, c, b, d, n), m.shift(a, c, b, d, n)); break;
            case 28: a = about(6); b = about(8); same("taken " + a + " " + b, x.taken(a, b), m.taken(a, b)); break;
            default: a = about(6); same("count " + a, x.count(a), m.count(a)); break;
        }
    }

    private static void told(int number, int what, int v) {
        same("mend(" + number + ", " + what + ", " + v + ")", x.mend(number, what, v), m.mend(number, what, v));
    }

    /** A sea with currents and depths, and some LOST ones in it: how many calls that took. */
    private static int filled() {
        told(0, 6, random.nextInt(64));
        told(0, 9, 1 + random.nextInt(4));
        told(0, 8, 1 + random.nextInt(4));
        for (int i = 0; i < 64; i++) {
            told(i, 5, random.nextInt(5));
            if (random.nextBoolean()) {
                told(i, 4, random.nextInt(6));
            }
        }
        int many = 1 + random.nextInt(10);
        for (int i = 0; i < many; i++) {
            int cell = random.nextInt(64), parish = random.nextInt(4);
            same("lost " + cell + " " + parish, x.lost(cell, parish), m.lost(cell, parish));
            told(i, 2, random.nextInt(7));
        }
        return 103 + 2 * many;
    }

    public static void main(String[] args) {
        for (seed = 0; seed < 1500 && !due.hasWrong(); seed++) {
            random = new Random(seed);
            x = new DrownedLight();
            m = new PlainModel();
            int calls = seed % 2 == 0 ? filled() : 0;
            while (calls < 480 && !due.hasWrong()) {
                int die = random.nextInt(40);
                if (die == 0 && seed % 3 > 0) {
                    calls += feedText() + 1;
                } else if (die > 32) {
                    calls += rowOf(random.nextInt(4));
                } else {
                    one(random.nextInt(30));
                    calls += 2;
                }
            }
        }
        due.end();
    }
}
