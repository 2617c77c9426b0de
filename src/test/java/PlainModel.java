import java.util.ArrayDeque;
import java.util.ArrayList;
import java.util.Arrays;
import java.util.Deque;
import java.util.List;

/**
 * The document once more, written without any thought of speed or room and in other ways than the
 * program: objects for the LOST, texts that are cut apart, real classes for KINDS, real arrays for ROWS.
 */
final class PlainModel {
    static final int BAD = -1, NOT = -2, FULL = -3, STATE = -5, VOID = -2000000000;

    static final class Soul {
        int cell, parish, owed;
        boolean home;

        Soul copy() {
            Soul s = new Soul();
            s.cell = cell;
            s.parish = parish;
            s.owed = owed;
            s.home = home;
            return s;
        }
    }

    /** All that a night changes. */
    static final class World {
        List<Soul> souls = new ArrayList<>();
        int oil = 50;
        int[] led = new int[5];

        World copy() {
            World w = new World();
            for (Soul s : souls) {
                w.souls.add(s.copy());
            }
            w.oil = oil;
            w.led = led.clone();
            return w;
        }

        int home() {
            int n = 0;
            for (Soul s : souls) {
                if (s.home) {
                    n++;
                }
            }
            return n;
        }
    }

    World now = new World();
    World image;
    int[] depth = new int[64];
    int[] drift = new int[64];
    int lamp = 27, burns = 3, walks = 3;
    String tape = "";
    String law;
    List<int[]> undo = new ArrayList<>();
    List<int[]> redo = new ArrayList<>();
    List<Night> nights = new ArrayList<>();
    static List<Integer> trace = new ArrayList<>();
    Object[] shelves = new Object[6];

    PlainModel() {
        Arrays.fill(drift, 4);
        trace = new ArrayList<>();
    }

    // ---- kinds

    interface Turns {
        int n();

        default int turns(int x) {
            trace.add(1);
            return x + n();
        }
    }

    interface Tells {
        int burns(int x);

        int warns(int x);

        default int tells(int x) {
            trace.add(2);
            return burns(x) - warns(1);
        }
    }

    static class Night implements Turns, Tells {
        final int n;

        Night(int n) {
            this.n = n;
        }

        public int n() {
            return n;
        }

        public int burns(int x) {
            trace.add(10);
            return turns(x) * 2;
        }

        public int warns(int x) {
            trace.add(11);
            return x ^ n;
        }
    }

    static class Lamp extends Night {
        Lamp(int n) {
            super(n);
        }

        public int turns(int x) {
            trace.add(20);
            return super.turns(x) + 3;
        }
    }

    static class Bell extends Night {
        Bell(int n) {
            super(n);
        }

        public int burns(int x) {
            trace.add(30);
            return -super.burns(x);
        }
    }

    static class Mug extends Bell {
        Mug(int n) {
            super(n);
        }

        public int warns(int x) {
            trace.add(40);
            return super.warns(x) * 3;
        }

        public int burns(int x) {
            trace.add(41);
            return super.burns(x + 1);
        }
    }

    static class Wreck extends Lamp {
        Wreck(int n) {
            super(n);
        }

        public int warns(int x) {
            trace.add(50);
            return super.warns(x) - turns(2);
        }
    }

    static class Latch extends Mug {
        Latch(int n) {
            super(n);
        }

        public int tells(int x) {
            trace.add(60);
            return super.tells(x) ^ 5;
        }
    }

    static class Beach extends Night {
        Beach(int n) {
            super(n);
        }

        public int turns(int x) {
            trace.add(70);
            return super.turns(x) * 2;
        }
    }

    static class Child extends Wreck {
        Child(int n) {
            super(n);
        }

        public int burns(int x) {
            trace.add(80);
            return super.burns(x) + warns(2);
        }

        public int tells(int x) {
            trace.add(81);
            return super.tells(x) - 1;
        }
    }

    static final Class<?>[] KINDS = {Night.class, Lamp.class, Bell.class, Mug.class, Wreck.class, Latch.class, Beach.class,
        Child.class};

    static int kindOf(Object o) {
        return Arrays.asList(KINDS).indexOf(o.getClass());
    }

    int body(int kind) {
        if (kind < 0 || kind > 7) {
            return BAD;
        }
        int n = nights.size();
        if (n == 50) {
            return FULL;
        }
        switch (kind) {
            case 0: nights.add(new Night(n)); break;
            case 1: nights.add(new Lamp(n)); break;
            case 2: nights.add(new Bell(n)); break;
            case 3: nights.add(new Mug(n)); break;
            case 4: nights.add(new Wreck(n)); break;
            case 5: nights.add(new Latch(n)); break;
            case 6: nights.add(new Beach(n)); break;
            default: nights.add(new Child(n)); break;
        }
        return n;
    }

    int act(int body, int act, int x) {
        trace.clear();
        if (body < 0 || body >= nights.size() || act < 0 || act > 3) {
            return 0;
        }
        Night night = nights.get(body);
        return act == 0 ? night.turns(x) : act == 1 ? night.burns(x) : act == 2 ? night.warns(x) : night.tells(x);
    }

    int trace(int i) {
        return i < 0 || i >= trace.size() || i >= 24 ? BAD : trace.get(i);
    }

    // ---- the law

    /** The place of the first byte with which no TEXT goes on; the length; -1: it is a TEXT. */
    static int fault(String t) {
        // '(' is a bracket, 'u' a sign ahead of an O that is not there yet; the flag of the comparison by brackets
        Deque<Character> open = new ArrayDeque<>();
        Deque<Boolean> compared = new ArrayDeque<>();
        compared.push(false);
        boolean wants = true;
        boolean asked = false;
        int digits = 0;
        for (int i = 0; i < t.length(); i++) {
            char c = t.charAt(i);
            boolean digit = c >= '0' && c <= '9';
            if (wants) {
                if (digit || "dponal".indexOf(c) >= 0) {
                    digits = digit ? 1 : 0;
                    wants = false;
                    while (!open.isEmpty() && open.peek() == 'u') {
                        open.pop();
                    }
                } else if ("(!-".indexOf(c) >= 0 && open.size() < 6) {
                    open.push(c == '(' ? '(' : 'u');
                    if (c == '(') {
                        compared.push(false);
                    }
                } else {
                    return i;
                }
                continue;
            }
            if (digit) {
                if (digits == 0 || digits == 4) {
                    return i;
                }
                digits++;
                continue;
            }
            digits = 0;
            if (c == ')') {
                if (open.isEmpty()) {
                    return i;
                }
                open.pop();
                compared.pop();
                while (!open.isEmpty() && open.peek() == 'u') {
                    open.pop();
                }
            } else if ("+-*/%".indexOf(c) >= 0) {
                wants = true;
            } else if ("<=>".indexOf(c) >= 0) {
                if (compared.pop()) {
                    return i;
                }
                compared.push(true);
                wants = true;
            } else if (c == '|' || c == '&') {
                compared.pop();
                compared.push(false);
                wants = true;
            } else if (open.isEmpty() && (c == ';' || c == '?' && !asked)) {
                asked = c == '?';
                compared.pop();
                compared.push(false);
                wants = true;
            } else {
                return i;
            }
        }
        return wants || !open.isEmpty() ? t.length() : -1;
    }

    /** The last place where one of some signs stands between operands, in no bracket; -1. */
    static int lastSign(String t, String signs) {
        int depth = 0;
        for (int i = t.length() - 1; i > 0; i--) {
            char c = t.charAt(i);
            if (c == ')') {
                depth++;
            } else if (c == '(') {
                depth--;
            } else if (depth == 0 && signs.indexOf(c) >= 0) {
                char before = t.charAt(i - 1);
                if (before == ')' || before >= '0' && before <= '9' || "dponal".indexOf(before) >= 0) {
                    return i;
                }
            }
        }
        return -1;
    }

    static int value(String t, int[] names) {
        for (String signs : new String[] {"|", "&", "<=>", "+-", "*/%"}) {
            int i = lastSign(t, signs);
            if (i > 0) {
                int x = value(t.substring(0, i), names);
                int y = value(t.substring(i + 1), names);
                switch (t.charAt(i)) {
                    case '|': return x != 0 | y != 0 ? 1 : 0;
                    case '&': return x != 0 & y != 0 ? 1 : 0;
                    case '<': return x < y ? 1 : 0;
                    case '=': return x == y ? 1 : 0;
                    case '>': return x > y ? 1 : 0;
                    case '+': return (int) ((long) x + y);
                    case '-': return (int) ((long) x - y);
                    case '*': return (int) ((long) x * y);
                    case '/': return y == 0 ? 0 : (int) ((long) x / y);
                    default: return y == 0 ? 0 : (int) ((long) x % y);
                }
            }
        }
        char c = t.charAt(0);
        if (c == '!') {
            return value(t.substring(1), names) == 0 ? 1 : 0;
        }
        if (c == '-') {
            return -value(t.substring(1), names);
        }
        if (c == '(') {
            return value(t.substring(1, t.length() - 1), names);
        }
        int name = "dponal".indexOf(c);
        return name >= 0 ? names[name] : Integer.parseInt(t);
    }

    static int textValue(String text, int[] names) {
        for (String line : text.split(";")) {
            String[] parts = line.split("\\?");
            if (parts.length == 1) {
                return value(parts[0], names);
            }
            if (value(parts[0], names) != 0) {
                return value(parts[1], names);
            }
        }
        return 0;
    }

    int feed(int letter) {
        if (letter < 0 || letter > 255) {
            return BAD;
        }
        if (tape.length() == 120) {
            return FULL;
        }
        tape += (char) letter;
        return tape.length();
    }

    int law() {
        int fault = fault(tape);
        if (fault < 0) {
            law = tape;
        }
        tape = "";
        return fault < 0 ? 1 : -100 - fault;
    }

    int far(int cell) {
        return Math.abs(cell % 8 - lamp % 8) + Math.abs(cell / 8 - lamp / 8);
    }

    int pull(World w, Soul s) {
        int beside = 0, kin = 0;
        for (Soul other : w.souls) {
            if (other != s && !other.home && other.cell == s.cell) {
                beside++;
            }
            if (other.home && other.parish == s.parish) {
                kin++;
            }
        }
        int pull = law == null ? 6 - depth[s.cell] / 2 - s.owed / 3
            : textValue(law, new int[] {far(s.cell), depth[s.cell], s.owed, beside, kin, w.oil});
        return pull < 0 ? 0 : pull > 9 ? 9 : pull;
    }

    int draws(int lost) {
        return bad(lost) ? BAD : pull(now, now.souls.get(lost));
    }

    // ---- the sea

    boolean bad(int lost) {
        return lost < 0 || lost >= now.souls.size();
    }

    int lost(int cell, int parish) {
        if (cell < 0 || cell > 63 || parish < 0 || parish > 3) {
            return BAD;
        }
        if (now.souls.size() == 10) {
            return FULL;
        }
        Soul s = new Soul();
        s.cell = cell;
        s.parish = parish;
        now.souls.add(s);
        return now.souls.size() - 1;
    }

    int losts(int shelf, int i, int n) {
        if (shelf < 0 || shelf > 5 || n < 1 || n > 10) {
            return BAD;
        }
        if (shelves[shelf] != null && !(shelves[shelf] instanceof byte[])) {
            return -12;
        }
        byte[] row = (byte[]) shelves[shelf];
        int came = 0;
        try {
            while (came < n && now.souls.size() < 10) {
                int cell = row[i++], parish = row[i++], owed = row[i++];
                if (owed < 0 || owed > 9 || lost(cell, parish) < 0) {
                    break;
                }
                now.souls.get(now.souls.size() - 1).owed = owed;
                came++;
            }
        } catch (RuntimeException end) {
            return came;
        }
        return came;
    }

    static final int[][] RANGES = {{0, 63}, {0, 3}, {0, 9}, {0, 1}, {0, 9}, {0, 4}, {0, 63}, {0, 999}, {1, 9}, {1, 9}};

    int of(int number, int what) {
        if (what < 0 || what > 9) {
            return BAD;
        }
        int count = what < 4 ? now.souls.size() : what < 6 ? 64 : 1;
        if (number < 0 || number >= count) {
            return BAD;
        }
        Soul s = what < 4 ? now.souls.get(number) : null;
        return switch (what) {
            case 0 -> s.cell;
            case 1 -> s.parish;
            case 2 -> s.owed;
            case 3 -> s.home ? 1 : 0;
            case 4 -> depth[number];
            case 5 -> drift[number];
            case 6 -> lamp;
            case 7 -> now.oil;
            case 8 -> burns;
            default -> walks;
        };
    }

    void set(int number, int what, int v) {
        Soul s = what < 4 ? now.souls.get(number) : null;
        switch (what) {
            case 0 -> s.cell = v;
            case 1 -> s.parish = v;
            case 2 -> s.owed = v;
            case 3 -> s.home = v != 0;
            case 4 -> depth[number] = v;
            case 5 -> drift[number] = v;
            case 6 -> lamp = v;
            case 7 -> now.oil = v;
            case 8 -> burns = v;
            default -> walks = v;
        }
    }

    int mend(int number, int what, int v) {
        int was = of(number, what);
        if (was == BAD || v < RANGES[what][0] || v > RANGES[what][1]) {
            return BAD;
        }
        if (was != v) {
            redo.clear();
            undo.add(new int[] {number, what, was, v});
            if (undo.size() > 40) {
                undo.remove(0);
            }
            set(number, what, v);
        }
        return was;
    }

    int undo() {
        if (undo.isEmpty()) {
            return STATE;
        }
        int[] c = undo.remove(undo.size() - 1);
        redo.add(c);
        set(c[0], c[1], c[2]);
        return undo.size();
    }

    int redo() {
        if (redo.isEmpty()) {
            return STATE;
        }
        int[] c = redo.remove(redo.size() - 1);
        undo.add(c);
        set(c[0], c[1], c[3]);
        return redo.size();
    }

    static final int[] DX = {0, 1, 0, -1, 0}, DY = {-1, 0, 1, 0, 0};

    boolean sees(int way, int cell) {
        int x = cell % 8 - lamp % 8, y = cell / 8 - lamp / 8;
        int along = x * DX[way] + y * DY[way];
        int across = Math.abs(x * DY[way]) + Math.abs(y * DX[way]);
        return along >= 1 && along >= across;
    }

    long seen(int way) {
        if (way < 0 || way > 3) {
            return Long.MIN_VALUE;
        }
        long bits = 0;
        for (int c = 0; c < 64; c++) {
            bits |= sees(way, c) ? 1L << c : 0;
        }
        return bits;
    }

    int drifts(int cell) {
        int x = cell % 8 + DX[drift[cell]], y = cell / 8 + DY[drift[cell]];
        return x < 0 || x > 7 || y < 0 || y > 7 ? cell : 8 * y + x;
    }

    // ---- nights

    int pass(World w, int way) {
        World before = w.copy();
        boolean burnt = way < 4 && before.oil >= burns;
        int came = 0;
        for (int i = 0; i < w.souls.size(); i++) {
            Soul s = w.souls.get(i);
            if (s.home) {
                continue;
            }
            int cell = s.cell;
            if (burnt && sees(way, cell) && pull(before, before.souls.get(i)) >= walks) {
                int dx = lamp % 8 - cell % 8, dy = lamp / 8 - cell / 8;
                s.cell += Math.abs(dx) >= Math.abs(dy) ? Integer.signum(dx) : 8 * Integer.signum(dy);
                w.led[2]++;
            } else {
                s.cell = drifts(cell);
            }
            if (s.cell == lamp) {
                s.home = true;
                came++;
            }
        }
        w.led[0]++;
        w.led[3] += came;
        if (burnt) {
            w.oil -= burns;
            w.led[1]++;
        }
        return came;
    }

    int refusal(int shelf) {
        if (shelf < 0 || shelf > 5) {
            return BAD;
        }
        return shelves[shelf] == null ? -11 : shelves[shelf] instanceof byte[] ? 0 : -12;
    }

    List<World> nightsOf(int shelf) {
        List<World> all = new ArrayList<>();
        all.add(now.copy());
        for (byte way : (byte[]) shelves[shelf]) {
            if (way < 0 || way > 4 || all.size() == 41) {
                break;
            }
            World next = all.get(all.size() - 1).copy();
            pass(next, way);
            all.add(next);
        }
        return all;
    }

    World behind(int shelf, int n) {
        List<World> all = nightsOf(shelf);
        return all.get(Math.min(n, all.size() - 1));
    }

    int later(int shelf, int n, int lost, int what) {
        if (n < 0 || n > 40 || bad(lost) || what < 0 || what > 1 || refusal(shelf) == BAD) {
            return BAD;
        }
        if (refusal(shelf) != 0) {
            return refusal(shelf);
        }
        Soul s = behind(shelf, n).souls.get(lost);
        return what == 0 ? s.cell : s.home ? 1 : 0;
    }

    static int bits(World w) {
        int bits = 0;
        for (int i = 0; i < w.souls.size(); i++) {
            bits |= w.souls.get(i).home ? 1 << i : 0;
        }
        return bits;
    }

    int home(int shelf, int n, int what) {
        if (n < 0 || n > 40 || what < 0 || what > 1 || refusal(shelf) == BAD) {
            return BAD;
        }
        if (refusal(shelf) != 0) {
            return refusal(shelf);
        }
        World w = behind(shelf, n);
        return what == 0 ? bits(w) : w.oil;
    }

    int since(int shelf, int lost) {
        if (bad(lost) || refusal(shelf) == BAD) {
            return BAD;
        }
        if (refusal(shelf) != 0) {
            return refusal(shelf);
        }
        List<World> all = nightsOf(shelf);
        for (int i = 0; i < all.size(); i++) {
            if (all.get(i).souls.get(lost).home) {
                return i;
            }
        }
        return NOT;
    }

    /** All lines of t nights, the least first, each with how the world is behind it. */
    void lines(World w, String ways, int t, List<String> names, List<World> ends) {
        if (ways.length() == t) {
            names.add(ways);
            ends.add(w);
            return;
        }
        for (int way = 0; way < 5; way++) {
            World next = w.copy();
            pass(next, way);
            lines(next, ways + way, t, names, ends);
        }
    }

    int best(int t, int k) {
        if (t < 0 || t > 4 || k < -2 || k >= t) {
            return BAD;
        }
        List<String> names = new ArrayList<>();
        List<World> ends = new ArrayList<>();
        lines(now, "", t, names, ends);
        int at = 0;
        for (int i = 1; i < ends.size(); i++) {
            if (ends.get(i).home() * 1000 + ends.get(i).oil > ends.get(at).home() * 1000 + ends.get(at).oil) {
                at = i;
            }
        }
        return k == -1 ? ends.get(at).home() : k == -2 ? ends.get(at).oil : names.get(at).charAt(k) - '0';
    }

    int fetch(int lost, int k) {
        if (bad(lost) || k < -1) {
            return BAD;
        }
        for (int t = 0; t <= 4; t++) {
            List<String> names = new ArrayList<>();
            List<World> ends = new ArrayList<>();
            lines(now, "", t, names, ends);
            for (int i = 0; i < ends.size(); i++) {
                if (ends.get(i).souls.get(lost).home) {
                    return k == -1 ? t : k < t ? names.get(i).charAt(k) - '0' : NOT;
                }
            }
        }
        return NOT;
    }

    // ---- drift

    long drifted(int cell, int n) {
        if (cell < 0 || cell > 63 || n < 0 || n > 20) {
            return Long.MIN_VALUE;
        }
        long bits = 0;
        for (int from = 0; from < 64; from++) {
            int c = from;
            for (int i = 0; i < n; i++) {
                c = drifts(c);
            }
            bits |= c == cell ? 1L << from : 0;
        }
        return bits;
    }

    int judged(byte[] row, int cell, boolean home) {
        World w = new World();
        Soul s = new Soul();
        s.cell = cell;
        s.home = home;
        w.souls.add(s);
        for (int i = 0; i < row.length && i < 49; i++) {
            if (row[i] != 64 && row[i] != s.cell) {
                return i;
            }
            pass(w, 4);
        }
        return NOT;
    }

    int ashore(int shelf, int lost, int what) {
        if (bad(lost) || what < 0 || what > 2 || refusal(shelf) == BAD) {
            return BAD;
        }
        if (refusal(shelf) != 0) {
            return refusal(shelf);
        }
        byte[] row = (byte[]) shelves[shelf];
        Soul s = now.souls.get(lost);
        if (what == 0) {
            return judged(row, s.cell, s.home);
        }
        List<Integer> cells = new ArrayList<>();
        for (int c = 0; c < 64; c++) {
            if (judged(row, c, s.home) == NOT) {
                cells.add(c);
            }
        }
        return what == 1 ? cells.size() : cells.isEmpty() ? NOT : cells.get(0);
    }

    // ---- rules

    List<int[]> rules(int shelf) {
        List<int[]> rules = new ArrayList<>();
        byte[] row = (byte[]) shelves[shelf];
        for (int i = 0; i + 1 < row.length; i += 2) {
            if (!bad(row[i]) && !bad(row[i + 1]) && row[i] != row[i + 1] && rules.size() < 20) {
                rules.add(new int[] {row[i], row[i + 1]});
            }
        }
        return rules;
    }

    List<Integer> order(List<int[]> rules) {
        List<Integer> order = new ArrayList<>();
        for (int round = 0; round < 10; round++) {
            for (int i = 0; i < now.souls.size(); i++) {
                boolean free = !order.contains(i);
                for (int[] rule : rules) {
                    free &= rule[1] != i || order.contains(rule[0]);
                }
                if (free) {
                    order.add(i);
                    break;
                }
            }
        }
        return order;
    }

    boolean goesRound(List<int[]> rules) {
        return order(rules).size() < now.souls.size();
    }

    int order(int shelf, int k) {
        if (k < 0 || refusal(shelf) != 0) {
            return k < 0 ? BAD : refusal(shelf);
        }
        List<int[]> rules = rules(shelf);
        return goesRound(rules) || k >= now.souls.size() ? NOT : order(rules).get(k);
    }

    /** The shortest way back to the first of a path that never comes to one twice. */
    int ring(List<int[]> rules, List<Integer> path) {
        int best = 99;
        for (int[] rule : rules) {
            if (rule[0] == path.get(path.size() - 1)) {
                if (rule[1] == path.get(0)) {
                    best = Math.min(best, path.size());
                } else if (!path.contains(rule[1])) {
                    List<Integer> longer = new ArrayList<>(path);
                    longer.add(rule[1]);
                    best = Math.min(best, ring(rules, longer));
                }
            }
        }
        return best;
    }

    boolean dropping(List<int[]> rules, int from, int count) {
        if (count == 0) {
            return !goesRound(rules);
        }
        for (int i = from; i < rules.size(); i++) {
            List<int[]> fewer = new ArrayList<>(rules);
            fewer.remove(i);
            if (dropping(fewer, i, count - 1)) {
                return true;
            }
        }
        return false;
    }

    int clash(int shelf, int what) {
        if (what < 0 || what > 1 || refusal(shelf) != 0) {
            return what < 0 || what > 1 ? BAD : refusal(shelf);
        }
        List<int[]> rules = rules(shelf);
        if (what == 0) {
            int best = 99;
            for (int i = 0; i < now.souls.size(); i++) {
                best = Math.min(best, ring(rules, new ArrayList<>(List.of(i))));
            }
            return best == 99 ? NOT : best;
        }
        int count = 0;
        while (!dropping(rules, 0, count)) {
            count++;
        }
        return count;
    }

    int may(int shelf, int came) {
        if (came < 0 || came >= Math.pow(2, now.souls.size()) || refusal(shelf) != 0) {
            return came < 0 || came >= Math.pow(2, now.souls.size()) ? BAD : refusal(shelf);
        }
        int bits = 0;
        for (int i = 0; i < now.souls.size(); i++) {
            boolean free = (came & 1 << i) == 0;
            for (int[] rule : rules(shelf)) {
                free &= rule[1] != i || (came & 1 << rule[0]) != 0;
            }
            bits |= free ? 1 << i : 0;
        }
        return bits;
    }

    // ---- shares, turns

    int claim(int parish) {
        int number = 0, owed = 0;
        for (Soul s : now.souls) {
            if (!s.home && s.parish == parish) {
                number++;
                owed += s.owed;
            }
        }
        return number + owed / 3;
    }

    int share(int parish, int v) {
        if (parish < 0 || parish > 3 || v < 0 || v > 9999) {
            return BAD;
        }
        int all = claim(0) + claim(1) + claim(2) + claim(3);
        return all == 0 ? 0 : v * claim(parish) / all;
    }

    long heard(int way, int part) {
        if (way < 0 || way > 3 || part < 0 || part > 1) {
            return Long.MIN_VALUE;
        }
        int flat = 0, all = 0;
        for (int c = 0; c < 64; c++) {
            if (sees(way, c)) {
                all++;
                flat += depth[c] == 0 ? 1 : 0;
            }
        }
        if (all == 0) {
            return part;
        }
        int g = java.math.BigInteger.valueOf(flat).gcd(java.math.BigInteger.valueOf(all)).intValue();
        return part == 0 ? flat / g : all / g;
    }

    int[] turn(World w, int parish, int night, int n) {
        if (night == n) {
            int away = 0;
            for (Soul s : w.souls) {
                away += s.parish == parish && !s.home ? 1 : 0;
            }
            return new int[] {w.home() - 2 * away, 0};
        }
        int[] best = null;
        for (int way : new int[] {4, 0, 1, 2, 3}) {
            World next = w.copy();
            pass(next, way);
            int value = turn(next, parish, night + 1, n)[0];
            if (best == null || (night % 2 == 0 ? value > best[0] : value < best[0])) {
                best = new int[] {value, way};
            }
        }
        return best;
    }

    int byTurns(int parish, int n, int what) {
        if (parish < 0 || parish > 3 || n < 1 || n > 4 || what < 0 || what > 1) {
            return VOID;
        }
        return turn(now, parish, 0, n)[what];
    }

    int drawn(int seed, int nmf, int lost) {
        int n = nmf / 10000, m = nmf % 10000 / 100, fog = nmf % 100;
        if (nmf < 0 || n < 1 || n > 30 || m < 1 || m > 30 || fog > 12 || lost != -1 && bad(lost)) {
            return BAD;
        }
        int all = 0;
        for (int year = 0; year < n; year++) {
            World w = now.copy();
            for (int night = 0; night < m; night++) {
                seed = (int) (seed * 1103515245L + 12345);
                pass(w, (seed >>> 16) % 12 < fog ? 4 : (seed >>> 8) % 4);
            }
            all += lost == -1 ? w.home() : w.souls.get(lost).home ? 1 : 0;
        }
        return all;
    }

    // ---- in deed

    int night(int way) {
        return way < 0 || way > 4 ? BAD : pass(now, way);
    }

    int oil(int more) {
        if (more < 1 || more > 999) {
            return BAD;
        }
        now.led[4] += more;
        now.oil = Math.min(999, now.oil + more);
        return now.oil;
    }

    int led(int what) {
        return what < 0 || what > 4 ? BAD : now.led[what];
    }

    int image() {
        image = now.copy();
        return now.led[0];
    }

    int back() {
        if (image == null) {
            return STATE;
        }
        for (int i = 0; i < image.souls.size(); i++) {
            now.souls.get(i).cell = image.souls.get(i).cell;
            now.souls.get(i).home = image.souls.get(i).home;
        }
        now.oil = image.oil;
        now.led = image.led.clone();
        return now.led[0];
    }

    // ---- shelves: the machine's own refusals tell what is due

    int keep(int shelf, int body) {
        if (shelf < 0 || shelf > 5 || body < -1 || body >= nights.size()) {
            return BAD;
        }
        shelves[shelf] = body < 0 ? null : nights.get(body);
        return 1;
    }

    int row(int shelf, int sort, int n) {
        if (shelf < 0 || shelf > 5 || sort < 0 || sort > 4 || n > 60) {
            return BAD;
        }
        try {
            shelves[shelf] = switch (sort) {
                case 0 -> new byte[n];
                case 1 -> new short[n];
                case 2 -> new int[n];
                case 3 -> new long[n];
                default -> new boolean[n];
            };
            return 1;
        } catch (NegativeArraySizeException e) {
            return -14;
        }
    }

    int put(int shelf, int i, long v) {
        if (shelf < 0 || shelf > 5) {
            return BAD;
        }
        Object o = shelves[shelf];
        if (o == null) {
            return -11;
        }
        try {
            if (o instanceof byte[] a) {
                a[i] = (byte) v;
            } else if (o instanceof short[] a) {
                a[i] = (short) v;
            } else if (o instanceof int[] a) {
                a[i] = (int) v;
            } else if (o instanceof long[] a) {
                a[i] = v;
            } else {
                ((boolean[]) o)[i] = v != 0;
            }
            return 1;
        } catch (ClassCastException e) {
            return -12;
        } catch (ArrayIndexOutOfBoundsException e) {
            return -13;
        }
    }

    long element(int shelf, int i) {
        if (shelf < 0 || shelf > 5) {
            return Long.MIN_VALUE;
        }
        Object o = shelves[shelf];
        try {
            if (o instanceof boolean[] a) {
                return a[i] ? 1 : 0;
            }
            return java.lang.reflect.Array.getLong(o, i);
        } catch (NullPointerException | IllegalArgumentException | ArrayIndexOutOfBoundsException e) {
            return Long.MIN_VALUE;
        }
    }

    int shift(int shelf, int i, int other, int j, int n) {
        if (shelf < 0 || shelf > 5 || other < 0 || other > 5) {
            return BAD;
        }
        try {
            System.arraycopy(shelves[shelf], i, shelves[other], j, n);
            return n;
        } catch (NullPointerException e) {
            return -11;
        } catch (ArrayStoreException e) {
            return -12;
        } catch (IndexOutOfBoundsException e) {
            return -13;
        }
    }

    int taken(int shelf, int k) {
        if (shelf < 0 || shelf > 5 || k < 0 || k > 7) {
            return BAD;
        }
        if (shelves[shelf] == null) {
            return -11;
        }
        try {
            return kindOf(KINDS[k].cast(shelves[shelf]));
        } catch (ClassCastException e) {
            return -12;
        }
    }

    int count(int what) {
        return switch (what) {
            case 0 -> now.souls.size();
            case 1 -> now.home();
            case 2 -> tape.length();
            case 3 -> undo.size();
            case 4 -> nights.size();
            case 5 -> trace.size();
            default -> BAD;
        };
    }
}
