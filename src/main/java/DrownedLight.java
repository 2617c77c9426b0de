/**
 * A lamp on a reef that is turned to look under water, night by night, so that those lost there may
 * walk to it. What each method answers is told in the document's promises; rows and stands are made
 * once, in the constructor, because all calls of a run share one small room.
 */
public final class DrownedLight {
    public static final int BAD = -1, NOT = -2, FULL = -3, STATE = -5, VOID = -2000000000;

    private static final int NOTHING_THERE = -11, OTHER_KIND = -12, NO_PLACE = -13, SIZE_BELOW_0 = -14;
    /** BAD where a long is answered; element() tells its other refusals by it, too. */
    private static final long BAD_LONG = 1L << 63;

    private static final int CELLS = 64, WIDTH = 8, MOST_LOST = 10, PARISHES = 4, WAYS = 4, UNLIT = 4, NO_DRIFT = 4;
    private static final int MOST_OIL = 999, MOST_NIGHTS = 40, MOST_THOUGHT = 4, MOST_AGO = 20, SHELVES = 6;

    /** What mend() and of() tell, by their `what`. */
    private static final int CELL = 0, PARISH = 1, OWED = 2, HOME = 3, DEPTH = 4, DRIFT = 5, LAMP = 6, OIL = 7, BURNS = 8,
            WALKS = 9;
    private static final int[] LOWEST = {0, 0, 0, 0, 0, 0, 0, 0, 1, 1};
    private static final int[] HIGHEST = {63, 3, 9, 1, 9, 4, 63, 999, 9, 9};

    /** What led() tells. */
    private static final int LED_NIGHTS = 0, LED_BURNT = 1, LED_STEPS = 2, LED_HOME = 3, LED_OIL = 4, LED_ALL = 5;

    private final Sea sea;
    private final Tape tape;
    private final Law law;
    private final Stand now;
    private final Stand kept;
    private final Search search;
    private final Drifts drifts;
    private final Rules rules;
    private final Changes changes;
    private final Acts acts;
    private final Shelf[] shelves;
    private boolean imageKept;

    public DrownedLight() {
        sea = new Sea();
        tape = new Tape();
        law = new Law();
        now = new Stand(sea, law);
        kept = new Stand(sea, law);
        search = new Search(sea, law);
        drifts = new Drifts(sea);
        rules = new Rules();
        changes = new Changes();
        acts = new Acts();
        shelves = new Shelf[SHELVES];
        for (int i = 0; i < SHELVES; i++) {
            shelves[i] = new Shelf();
        }
    }

    // ---- the lost, the sea

    public int lost(int cell, int parish) {
        if (!isWithin(CELL, cell) || !isWithin(PARISH, parish)) {
            return BAD;
        }
        if (now.lost >= MOST_LOST) {
            return FULL;
        }
        return addLost(cell, parish, 0);
    }

    public int losts(int shelf, int i, int n) {
        if (!isShelf(shelf) || n < 1 || n > MOST_LOST) {
            return BAD;
        }
        Shelf from = shelves[shelf];
        if (from.isEmpty()) {
            return 0;
        }
        if (!from.isRowOfBytes()) {
            return OTHER_KIND;
        }
        int came = 0;
        int place = i;
        while (came < n && now.lost < MOST_LOST && from.hasPlaces(place, 3) && isLostOne(from, place)) {
            addLost(from.number(place), from.number(place + 1), from.number(place + 2));
            came++;
            place += 3;
        }
        return came;
    }

    public int mend(int number, int what, int v) {
        if (!isNumbered(number, what) || !isWithin(what, v)) {
            return BAD;
        }
        int was = told(number, what);
        if (was != v) {
            changes.add(number, what, was, v);
            tell(number, what, v);
        }
        return was;
    }

    public int of(int number, int what) {
        return isNumbered(number, what) ? told(number, what) : BAD;
    }

    public int feed(int letter) {
        if (letter < 0 || letter > 255) {
            return BAD;
        }
        return tape.take(letter) ? tape.length : FULL;
    }

    public int law() {
        boolean isText = tape.read();
        int fault = tape.at;
        if (isText) {
            law.become(tape);
        }
        tape.length = 0;
        return isText ? 1 : -100 - fault;
    }

    public int draws(int lost) {
        return isLost(lost) ? now.pull(lost) : BAD;
    }

    public long seen(int way) {
        return isWay(way) ? sea.lit(way) : BAD_LONG;
    }

    // ---- nights in thought

    public int later(int shelf, int n, int lost, int what) {
        if (!isCountOfNights(n) || !isLost(lost) || what < 0 || what > 1) {
            return BAD;
        }
        int refusal = refusalOfBytes(shelf);
        if (refusal != 0) {
            return refusal;
        }
        Stand then = search.behind(now, shelves[shelf], n);
        if (what == 0) {
            return then.cell[lost];
        }
        return then.isHome(lost) ? 1 : 0;
    }

    public int home(int shelf, int n, int what) {
        if (!isCountOfNights(n) || what < 0 || what > 1) {
            return BAD;
        }
        int refusal = refusalOfBytes(shelf);
        if (refusal != 0) {
            return refusal;
        }
        Stand then = search.behind(now, shelves[shelf], n);
        return what == 0 ? then.home : then.oil;
    }

    public int since(int shelf, int lost) {
        if (!isLost(lost)) {
            return BAD;
        }
        int refusal = refusalOfBytes(shelf);
        return refusal != 0 ? refusal : search.firstHome(now, shelves[shelf], lost);
    }

    public int best(int t, int k) {
        if (t < 0 || t > MOST_THOUGHT || k < -2 || k >= t) {
            return BAD;
        }
        search.findBest(now, t);
        if (k == -1) {
            return search.mostHome;
        }
        return k == -2 ? search.mostOil : search.wayOf(search.chosen, t, k);
    }

    public int fetch(int lost, int k) {
        if (!isLost(lost) || k < -1) {
            return BAD;
        }
        int nights = search.fewest(now, lost);
        if (nights < 0 || k >= nights) {
            return NOT;
        }
        return k == -1 ? nights : search.wayOf(search.chosen, nights, k);
    }

    // ---- drift

    public long drifted(int cell, int n) {
        if (!isWithin(CELL, cell) || n < 0 || n > MOST_AGO) {
            return BAD_LONG;
        }
        return drifts.ago(cell, n);
    }

    public int ashore(int shelf, int lost, int what) {
        if (!isLost(lost) || what < 0 || what > 2) {
            return BAD;
        }
        int refusal = refusalOfBytes(shelf);
        if (refusal != 0) {
            return refusal;
        }
        if (what == 0) {
            return drifts.firstUnlike(shelves[shelf], now.cell[lost], now.isHome(lost));
        }
        return drifts.from(shelves[shelf], now.isHome(lost), what == 2);
    }

    // ---- rules

    public int order(int shelf, int k) {
        int refusal = k < 0 ? BAD : readRules(shelf);
        return refusal != 0 ? refusal : rules.inOrder(k);
    }

    public int clash(int shelf, int what) {
        int refusal = what < 0 || what > 1 ? BAD : readRules(shelf);
        if (refusal != 0) {
            return refusal;
        }
        return what == 0 ? rules.smallestRing() : rules.fewestDropped();
    }

    public int may(int shelf, int came) {
        int refusal = came < 0 || came >= 1 << now.lost ? BAD : readRules(shelf);
        return refusal != 0 ? refusal : rules.next(came);
    }

    // ---- shares, turns

    public int share(int parish, int v) {
        if (!isWithin(PARISH, parish) || v < 0 || v > 9999) {
            return BAD;
        }
        int all = 0;
        for (int i = 0; i < PARISHES; i++) {
            all += now.claim(i);
        }
        return all == 0 ? 0 : v * now.claim(parish) / all;
    }

    public long heard(int way, int part) {
        if (!isWay(way) || part < 0 || part > 1) {
            return BAD_LONG;
        }
        long lit = sea.lit(way);
        int all = Long.bitCount(lit);
        int flat = Long.bitCount(lit & sea.flat());
        if (all == 0) {
            // it is seen from nowhere: the fraction that is 0, in lowest terms
            return part;
        }
        return (part == 0 ? flat : all) / commonDivisor(flat, all);
    }

    public int byTurns(int parish, int n, int what) {
        if (!isWithin(PARISH, parish) || n < 1 || n > MOST_THOUGHT || what < 0 || what > 1) {
            return VOID;
        }
        int worth = search.turnAbout(now, parish, n);
        return what == 0 ? worth : search.firstWay;
    }

    public int drawn(int seed, int nmf, int lost) {
        int years = nmf / 10000;
        int nights = nmf / 100 % 100;
        int fog = nmf % 100;
        if (nmf < 0 || years < 1 || years > 30 || nights < 1 || nights > 30 || fog > 12) {
            return BAD;
        }
        if (lost != -1 && !isLost(lost)) {
            return BAD;
        }
        search.draw(now, seed, years, nights, fog);
        return lost == -1 ? search.homeInAll() : search.ends[lost];
    }

    // ---- in deed

    public int night(int way) {
        return way == UNLIT || isWay(way) ? now.pass(way) : BAD;
    }

    public int oil(int more) {
        if (more < 1 || more > MOST_OIL) {
            return BAD;
        }
        now.oil = Math.min(MOST_OIL, now.oil + more);
        now.tally[LED_OIL] += more;
        return now.oil;
    }

    public int led(int what) {
        return what < 0 || what >= LED_ALL ? BAD : now.tally[what];
    }

    public int image() {
        kept.become(now);
        imageKept = true;
        return now.tally[LED_NIGHTS];
    }

    public int back() {
        if (!imageKept) {
            return STATE;
        }
        now.layBack(kept);
        return now.tally[LED_NIGHTS];
    }

    public int undo() {
        int i = changes.done - 1;
        if (!changes.isKept(i)) {
            return STATE;
        }
        tell(changes.number[i], changes.what[i], changes.was[i]);
        changes.done = i;
        return i;
    }

    public int redo() {
        int i = changes.done;
        if (!changes.isKept(i)) {
            return STATE;
        }
        tell(changes.number[i], changes.what[i], changes.became[i]);
        changes.done = i + 1;
        return changes.all - changes.done;
    }

    // ---- acts, shelves

    public int body(int kind) {
        if (!acts.isKind(kind)) {
            return BAD;
        }
        return acts.isFull() ? FULL : acts.add(kind);
    }

    public int act(int body, int act, int x) {
        return acts.start(body, act, x);
    }

    public int trace(int i) {
        return acts.isTraced(i) ? acts.traced[i] : BAD;
    }

    public int keep(int shelf, int body) {
        if (!isShelf(shelf) || (body != -1 && !acts.isBody(body))) {
            return BAD;
        }
        shelves[shelf].holdBody(body);
        return 1;
    }

    public int row(int shelf, int sort, int n) {
        if (!isShelf(shelf) || sort < 0 || sort > Shelf.BOOLEANS || n > Shelf.LONGEST) {
            return BAD;
        }
        if (n < 0) {
            return SIZE_BELOW_0;
        }
        shelves[shelf].holdRow(sort, n);
        return 1;
    }

    public int put(int shelf, int i, long v) {
        int refusal = refusalOfPlace(shelf, i);
        if (refusal != 0) {
            return refusal;
        }
        shelves[shelf].set(i, v);
        return 1;
    }

    public long element(int shelf, int i) {
        return refusalOfPlace(shelf, i) == 0 ? shelves[shelf].items[i] : BAD_LONG;
    }

    public int shift(int shelf, int i, int other, int j, int n) {
        if (!isShelf(shelf) || !isShelf(other)) {
            return BAD;
        }
        Shelf from = shelves[shelf];
        Shelf to = shelves[other];
        if (from.isEmpty() || to.isEmpty()) {
            return NOTHING_THERE;
        }
        if (!from.isRow() || !to.isRow() || from.sort != to.sort) {
            return OTHER_KIND;
        }
        if (!from.hasPlaces(i, n) || !to.hasPlaces(j, n)) {
            return NO_PLACE;
        }
        System.arraycopy(from.items, i, to.items, j, n);
        return n;
    }

    public int taken(int shelf, int k) {
        if (!isShelf(shelf) || !acts.isKind(k)) {
            return BAD;
        }
        Shelf held = shelves[shelf];
        if (held.isEmpty()) {
            return NOTHING_THERE;
        }
        if (!acts.isBody(held.body) || !acts.isUnder(acts.kinds[held.body], k)) {
            return OTHER_KIND;
        }
        return acts.kinds[held.body];
    }

    public int count(int what) {
        switch (what) {
            case 0:
                return now.lost;
            case 1:
                return Integer.bitCount(now.home);
            case 2:
                return tape.length;
            case 3:
                return changes.done;
            case 4:
                return acts.bodies;
            case 5:
                return acts.ran;
            default:
                return BAD;
        }
    }

    // ---- what the calls share

    private boolean isLost(int lost) {
        return lost >= 0 && lost < now.lost;
    }

    private boolean isWay(int way) {
        return way >= 0 && way < WAYS;
    }

    private boolean isShelf(int shelf) {
        return shelf >= 0 && shelf < SHELVES;
    }

    private boolean isCountOfNights(int n) {
        return n >= 0 && n <= MOST_NIGHTS;
    }

    private boolean isWithin(int what, int v) {
        return v >= LOWEST[what] && v <= HIGHEST[what];
    }

    private boolean isLostOne(Shelf from, int place) {
        return isWithin(CELL, from.number(place)) && isWithin(PARISH, from.number(place + 1))
                && isWithin(OWED, from.number(place + 2));
    }

    /** Whether there is such a thing as `what` of this number. */
    private boolean isNumbered(int number, int what) {
        if (what < CELL || what > WALKS) {
            return false;
        }
        if (what <= HOME) {
            return isLost(number);
        }
        if (what <= DRIFT) {
            return number >= 0 && number < CELLS;
        }
        return number == 0;
    }

    private int addLost(int cell, int parish, int owed) {
        int one = now.lost;
        now.cell[one] = cell;
        sea.parish[one] = parish;
        sea.owed[one] = owed;
        now.lost = one + 1;
        return one;
    }

    private int told(int number, int what) {
        switch (what) {
            case CELL:
                return now.cell[number];
            case PARISH:
                return sea.parish[number];
            case OWED:
                return sea.owed[number];
            case HOME:
                return now.isHome(number) ? 1 : 0;
            case DEPTH:
                return sea.depth[number];
            case DRIFT:
                return sea.drift[number];
            case LAMP:
                return sea.lamp;
            case OIL:
                return now.oil;
            case BURNS:
                return sea.burns;
            default:
                return sea.walks;
        }
    }

    private void tell(int number, int what, int v) {
        switch (what) {
            case CELL:
                now.cell[number] = v;
                break;
            case PARISH:
                sea.parish[number] = v;
                break;
            case OWED:
                sea.owed[number] = v;
                break;
            case HOME:
                now.setHome(number, v == 1);
                break;
            case DEPTH:
                sea.depth[number] = v;
                break;
            case DRIFT:
                sea.drift[number] = v;
                break;
            case LAMP:
                sea.lamp = v;
                break;
            case OIL:
                now.oil = v;
                break;
            case BURNS:
                sea.burns = v;
                break;
            default:
                sea.walks = v;
                break;
        }
    }

    /** 0 where a ROW of bytes is on the SHELF. */
    private int refusalOfBytes(int shelf) {
        if (!isShelf(shelf)) {
            return BAD;
        }
        if (shelves[shelf].isEmpty()) {
            return NOTHING_THERE;
        }
        return shelves[shelf].isRowOfBytes() ? 0 : OTHER_KIND;
    }

    /** 0 where the ROW on the SHELF has a place i. */
    private int refusalOfPlace(int shelf, int i) {
        if (!isShelf(shelf)) {
            return BAD;
        }
        if (shelves[shelf].isEmpty()) {
            return NOTHING_THERE;
        }
        if (!shelves[shelf].isRow()) {
            return OTHER_KIND;
        }
        return shelves[shelf].hasPlaces(i, 1) ? 0 : NO_PLACE;
    }

    /** 0 where the RULES on the SHELF could be read. */
    private int readRules(int shelf) {
        int refusal = refusalOfBytes(shelf);
        if (refusal == 0) {
            rules.read(shelves[shelf], now.lost);
        }
        return refusal;
    }

    private int commonDivisor(int a, int b) {
        for (int i = b; i > 1; i--) {
            if (a % i == 0 && b % i == 0) {
                return i;
            }
        }
        return 1;
    }

    // ---- the sea

    /** The sea without those who move in it: what a night does not change. */
    private static final class Sea {
        final int[] depth = new int[CELLS];
        final int[] drift = new int[CELLS];
        final int[] parish = new int[MOST_LOST];
        final int[] owed = new int[MOST_LOST];
        int lamp = 27;
        int burns = 3;
        int walks = 3;

        Sea() {
            for (int i = 0; i < CELLS; i++) {
                drift[i] = NO_DRIFT;
            }
        }

        int far(int cell) {
            return Math.abs(cell % WIDTH - lamp % WIDTH) + Math.abs(cell / WIDTH - lamp / WIDTH);
        }

        /** Whether the light, turned a WAY and burning, is seen from a CELL. */
        boolean isLit(int way, int cell) {
            int right = cell % WIDTH - lamp % WIDTH;
            int down = cell / WIDTH - lamp / WIDTH;
            boolean upright = way == 0 || way == 2;
            int ahead = upright ? down : right;
            int along = way == 0 || way == 3 ? -ahead : ahead;
            int across = Math.abs(upright ? right : down);
            return along > 0 && across <= along;
        }

        long lit(int way) {
            long bits = 0;
            for (int i = 0; i < CELLS; i++) {
                if (isLit(way, i)) {
                    bits |= 1L << i;
                }
            }
            return bits;
        }

        /** The CELLS of DEPTH 0. */
        long flat() {
            long bits = 0;
            for (int i = 0; i < CELLS; i++) {
                if (depth[i] == 0) {
                    bits |= 1L << i;
                }
            }
            return bits;
        }

        /** The CELL one step nearer to the lamp; called for CELLS other than the lamp's. */
        int nearer(int cell) {
            int right = lamp % WIDTH - cell % WIDTH;
            int down = lamp / WIDTH - cell / WIDTH;
            if (Math.abs(right) >= Math.abs(down)) {
                return right > 0 ? cell + 1 : cell - 1;
            }
            return down > 0 ? cell + WIDTH : cell - WIDTH;
        }

        int carried(int cell) {
            int x = cell % WIDTH;
            int y = cell / WIDTH;
            switch (drift[cell]) {
                case 0:
                    return y > 0 ? cell - WIDTH : cell;
                case 1:
                    return x < WIDTH - 1 ? cell + 1 : cell;
                case 2:
                    return y < WIDTH - 1 ? cell + WIDTH : cell;
                case 3:
                    return x > 0 ? cell - 1 : cell;
                default:
                    return cell;
            }
        }
    }

    // ---- the law

    /**
     * THE TAPE, and the reading of its TEXT into steps: an int or a name is laid on a pile, a sign takes
     * what it needs from there, ASK goes on behind its LINE if 0 is on top, LINE ends with what is on top.
     */
    private static final class Tape {
        static final int LONGEST = 120, MOST_STEPS = 128, MOST_OPEN = 6, MOST_DIGITS = 4;
        static final int NUMBER = 1, NAME = 2, NEGATE = 3, ASK = 4, LINE = 5;
        private static final int LOOSEST = 0, COMPARING = 2, TIGHTEST = 4;

        final int[] letters = new int[LONGEST];
        int length;
        /** Where the reading stands; behind a reading that failed, the FAULT. */
        int at;
        final int[] steps = new int[MOST_STEPS];
        final int[] args = new int[MOST_STEPS];
        int written;

        boolean take(int letter) {
            if (length >= LONGEST) {
                return false;
            }
            letters[length] = letter;
            length++;
            return true;
        }

        /** Whether the whole tape is a TEXT. */
        boolean read() {
            at = 0;
            written = 0;
            boolean goesOn = readLine();
            while (goesOn && at < length && letters[at] == ';') {
                at++;
                goesOn = readLine();
            }
            return goesOn && at == length;
        }

        private boolean isNext(int letter) {
            return at < length && letters[at] == letter;
        }

        private void write(int step, int arg) {
            if (written < MOST_STEPS) {
                steps[written] = step;
                args[written] = arg;
                written++;
            }
        }

        private boolean readLine() {
            if (!readTier(LOOSEST, 0)) {
                return false;
            }
            if (!isNext('?')) {
                write(LINE, 0);
                return true;
            }
            at++;
            int ask = written;
            write(ASK, 0);
            if (!readTier(LOOSEST, 0)) {
                return false;
            }
            write(LINE, 0);
            if (ask < MOST_STEPS) {
                args[ask] = written;
            }
            return true;
        }

        /** Reads E (tier 0), A, B, S or P (tier 4), with so many of ( ! - open around it. */
        private boolean readTier(int tier, int open) {
            boolean goesOn = readPart(tier, open);
            while (goesOn && at < length && tierOf(letters[at]) == tier) {
                int sign = letters[at];
                at++;
                goesOn = readPart(tier, open);
                write(sign, 0);
                if (tier == COMPARING) {
                    return goesOn;
                }
            }
            return goesOn;
        }

        /** Reads what a tier's signs stand between. */
        private boolean readPart(int tier, int open) {
            return tier >= TIGHTEST ? readOperand(open) : readTier(tier + 1, open);
        }

        private boolean readOperand(int open) {
            if (at >= length) {
                return false;
            }
            int letter = letters[at];
            if (letter >= '0' && letter <= '9') {
                readNumber();
                return true;
            }
            int name = nameOf(letter);
            if (name >= 0) {
                at++;
                write(NAME, name);
                return true;
            }
            if (open >= MOST_OPEN || (letter != '(' && letter != '!' && letter != '-')) {
                return false;
            }
            at++;
            if (letter == '(') {
                return readTier(LOOSEST, open + 1) && readClosing();
            }
            boolean goesOn = readPart(TIGHTEST, open + 1);
            write(letter == '!' ? '!' : NEGATE, 0);
            return goesOn;
        }

        private boolean readClosing() {
            if (!isNext(')')) {
                return false;
            }
            at++;
            return true;
        }

        private void readNumber() {
            int number = 0;
            int end = Math.min(length, at + MOST_DIGITS);
            while (at < end && letters[at] >= '0' && letters[at] <= '9') {
                number = number * 10 + letters[at] - '0';
                at++;
            }
            write(NUMBER, number);
        }

        private int tierOf(int letter) {
            switch (letter) {
                case '|':
                    return 0;
                case '&':
                    return 1;
                case '<':
                case '=':
                case '>':
                    return COMPARING;
                case '+':
                case '-':
                    return 3;
                case '*':
                case '/':
                case '%':
                    return 4;
                default:
                    return -1;
            }
        }

        private int nameOf(int letter) {
            switch (letter) {
                case 'd':
                    return Law.FAR;
                case 'p':
                    return Law.DEEP;
                case 'o':
                    return Law.OWES;
                case 'n':
                    return Law.BESIDE;
                case 'a':
                    return Law.KIN;
                case 'l':
                    return Law.OIL_THEN;
                default:
                    return -1;
            }
        }
    }

    /** THE LAW: the steps of its TEXT, kept because the tape is used again; none: the law without a text. */
    private static final class Law {
        static final int FAR = 0, DEEP = 1, OWES = 2, BESIDE = 3, KIN = 4, OIL_THEN = 5;

        private final int[] steps = new int[Tape.MOST_STEPS];
        private final int[] args = new int[Tape.MOST_STEPS];
        private int length;
        /** What the names mean for the one who is looked at. */
        final int[] names = new int[6];
        private final int[] pile = new int[Tape.MOST_STEPS];

        void become(Tape tape) {
            length = tape.written;
            System.arraycopy(tape.steps, 0, steps, 0, length);
            System.arraycopy(tape.args, 0, args, 0, length);
        }

        /** What THE LAW gives, by the names as they are. */
        int workOut() {
            if (length == 0) {
                return 6 - names[DEEP] / 2 - names[OWES] / 3;
            }
            int top = 0;
            int at = 0;
            while (at < length && top < pile.length) {
                int step = steps[at];
                int arg = args[at];
                at++;
                if (step == Tape.NUMBER) {
                    pile[top] = arg;
                    top++;
                } else if (step == Tape.NAME) {
                    pile[top] = names[arg];
                    top++;
                } else if (top < 1) {
                    return 0;
                } else if (step == Tape.LINE) {
                    return pile[top - 1];
                } else if (step == Tape.ASK) {
                    top--;
                    at = pile[top] == 0 ? Math.max(at, arg) : at;
                } else if (step == Tape.NEGATE) {
                    pile[top - 1] = -pile[top - 1];
                } else if (step == '!') {
                    pile[top - 1] = pile[top - 1] == 0 ? 1 : 0;
                } else if (top < 2) {
                    return 0;
                } else {
                    top--;
                    pile[top - 1] = joined(step, pile[top - 1], pile[top]);
                }
            }
            return 0;
        }

        private int joined(int sign, int x, int y) {
            switch (sign) {
                case '|':
                    return x != 0 || y != 0 ? 1 : 0;
                case '&':
                    return x != 0 && y != 0 ? 1 : 0;
                case '<':
                    return x < y ? 1 : 0;
                case '=':
                    return x == y ? 1 : 0;
                case '>':
                    return x > y ? 1 : 0;
                case '+':
                    return x + y;
                case '-':
                    return x - y;
                case '*':
                    return x * y;
                case '/':
                    return y == 0 ? 0 : x / y;
                case '%':
                    return y == 0 ? 0 : x % y;
                default:
                    return 0;
            }
        }
    }

    // ---- nights

    /** Where the LOST stand, now, in an image or in thought, with OIL and what led() tells. */
    private static final class Stand {
        private final Sea sea;
        private final Law law;
        final int[] cell = new int[MOST_LOST];
        final int[] tally = new int[LED_ALL];
        private final int[] goal = new int[MOST_LOST];
        int lost;
        /** Who are HOME, as bits. */
        int home;
        int oil = 50;

        Stand(Sea sea, Law law) {
            this.sea = sea;
            this.law = law;
        }

        boolean isHome(int one) {
            return (home >> one & 1) != 0;
        }

        void setHome(int one, boolean isSo) {
            home = isSo ? home | 1 << one : home & ~(1 << one);
        }

        void become(Stand other) {
            lost = other.lost;
            layBack(other);
        }

        /** Takes all of the other one but how many are LOST: who is not in it stays as he is. */
        void layBack(Stand other) {
            int since = home >> other.lost << other.lost;
            home = since | other.home;
            oil = other.oil;
            System.arraycopy(other.cell, 0, cell, 0, other.lost);
            System.arraycopy(other.tally, 0, tally, 0, LED_ALL);
        }

        /** A NIGHT: how many come HOME. All goals are found first, since all walk by how it began. */
        int pass(int way) {
            boolean burns = way != UNLIT && oil >= sea.burns;
            for (int i = 0; i < lost; i++) {
                int from = cell[i];
                if (isHome(i)) {
                    goal[i] = from;
                } else if (burns && sea.isLit(way, from) && pull(i) >= sea.walks) {
                    goal[i] = sea.nearer(from);
                    tally[LED_STEPS]++;
                } else {
                    goal[i] = sea.carried(from);
                }
            }
            tally[LED_NIGHTS]++;
            if (burns) {
                oil -= sea.burns;
                tally[LED_BURNT]++;
            }
            int before = Integer.bitCount(home);
            for (int i = 0; i < lost; i++) {
                cell[i] = goal[i];
                if (cell[i] == sea.lamp) {
                    setHome(i, true);
                }
            }
            int came = Integer.bitCount(home) - before;
            tally[LED_HOME] += came;
            return came;
        }

        /** How much the light would draw one, as all stand. */
        int pull(int one) {
            int beside = 0;
            int kin = 0;
            for (int i = 0; i < lost; i++) {
                if (isHome(i)) {
                    kin += sea.parish[i] == sea.parish[one] ? 1 : 0;
                } else if (i != one && cell[i] == cell[one]) {
                    beside++;
                }
            }
            law.names[Law.FAR] = sea.far(cell[one]);
            law.names[Law.DEEP] = sea.depth[cell[one]];
            law.names[Law.OWES] = sea.owed[one];
            law.names[Law.BESIDE] = beside;
            law.names[Law.KIN] = kin;
            law.names[Law.OIL_THEN] = oil;
            return Math.max(0, Math.min(9, law.workOut()));
        }

        int awayOf(int parish) {
            int away = 0;
            for (int i = 0; i < lost; i++) {
                away += !isHome(i) && sea.parish[i] == parish ? 1 : 0;
            }
            return away;
        }

        /** What a PARISH weighs when oil is shared. */
        int claim(int parish) {
            int owed = 0;
            for (int i = 0; i < lost; i++) {
                owed += !isHome(i) && sea.parish[i] == parish ? sea.owed[i] : 0;
            }
            return awayOf(parish) + owed / 3;
        }
    }

    /**
     * Nights in thought. LINES of t nights bear numbers of t digits to the base 5, the first night's WAY
     * ahead: so of like ones the least is the one that is met first.
     */
    private static final class Search {
        private static final int[] LINES = {1, 5, 25, 125, 625};
        private static final int CHOICES = 5;

        /** stands[i] is how all stand behind i nights of the line that is followed. */
        private final Stand[] stands = new Stand[MOST_THOUGHT + 1];
        private final int[] worths = new int[625];
        int chosen;
        int mostHome;
        int mostOil;
        int firstWay;
        final int[] ends = new int[MOST_LOST];

        Search(Sea sea, Law law) {
            for (int i = 0; i <= MOST_THOUGHT; i++) {
                stands[i] = new Stand(sea, law);
            }
        }

        private boolean isNight(Shelf nights, int i) {
            return i < nights.length && nights.number(i) >= 0 && nights.number(i) <= UNLIT;
        }

        Stand behind(Stand now, Shelf nights, int n) {
            Stand then = stands[0];
            then.become(now);
            for (int i = 0; i < n && isNight(nights, i); i++) {
                then.pass(nights.number(i));
            }
            return then;
        }

        int firstHome(Stand now, Shelf nights, int one) {
            Stand then = stands[0];
            then.become(now);
            int night = 0;
            while (night < MOST_NIGHTS && isNight(nights, night) && !then.isHome(one)) {
                then.pass(nights.number(night));
                night++;
            }
            return then.isHome(one) ? night : NOT;
        }

        /** The WAY of night k of a line. */
        int wayOf(int line, int nights, int k) {
            return line / LINES[nights - 1 - k] % CHOICES;
        }

        /** How all stand behind a line; nights that it shares with the line before are not passed again. */
        private Stand follow(int line, int nights) {
            int night = 0;
            while (line > 0 && night < nights && line % LINES[nights - 1 - night] != 0) {
                night++;
            }
            while (night < nights) {
                stands[night + 1].become(stands[night]);
                stands[night + 1].pass(wayOf(line, nights, night));
                night++;
            }
            return stands[nights];
        }

        void findBest(Stand now, int nights) {
            stands[0].become(now);
            mostHome = -1;
            mostOil = -1;
            for (int line = 0; line < LINES[nights]; line++) {
                Stand then = follow(line, nights);
                int home = Integer.bitCount(then.home);
                if (home > mostHome || (home == mostHome && then.oil > mostOil)) {
                    mostHome = home;
                    mostOil = then.oil;
                    chosen = line;
                }
            }
        }

        /** The fewest nights behind which one is HOME, their line chosen; -1: none. */
        int fewest(Stand now, int one) {
            stands[0].become(now);
            for (int nights = 0; nights <= MOST_THOUGHT; nights++) {
                for (int line = 0; line < LINES[nights]; line++) {
                    if (follow(line, nights).isHome(one)) {
                        chosen = line;
                        return nights;
                    }
                }
            }
            return -1;
        }

        /** What the keeper comes to if both do their best; worths are drawn together from the last night on. */
        int turnAbout(Stand now, int parish, int nights) {
            stands[0].become(now);
            for (int line = 0; line < LINES[nights]; line++) {
                Stand then = follow(line, nights);
                worths[line] = Integer.bitCount(then.home) - 2 * then.awayOf(parish);
            }
            for (int night = nights - 1; night >= 0; night--) {
                for (int line = 0; line < LINES[night]; line++) {
                    firstWay = bestOf(line * CHOICES, night % 2 == 0);
                    worths[line] = worths[line * CHOICES + firstWay];
                }
            }
            return worths[0];
        }

        /** The WAY of the most worth (for the keeper) or the least; 4 first, since of like ones it is ahead. */
        private int bestOf(int from, boolean keeper) {
            int best = UNLIT;
            for (int way = 0; way < WAYS; way++) {
                int more = worths[from + way] - worths[from + best];
                if (keeper ? more > 0 : more < 0) {
                    best = way;
                }
            }
            return best;
        }

        /** ends[i] becomes at how many years' ends one is HOME; each year begins as all stand now. */
        void draw(Stand now, int seed, int years, int nights, int fog) {
            for (int i = 0; i < MOST_LOST; i++) {
                ends[i] = 0;
            }
            Stand then = stands[0];
            int z = seed;
            for (int year = 0; year < years; year++) {
                then.become(now);
                for (int night = 0; night < nights; night++) {
                    z = z * 1103515245 + 12345;
                    then.pass((z >>> 16) % 12 < fog ? UNLIT : (z >>> 8) % WAYS);
                }
                for (int i = 0; i < then.lost; i++) {
                    ends[i] += then.isHome(i) ? 1 : 0;
                }
            }
        }

        int homeInAll() {
            int all = 0;
            for (int i = 0; i < MOST_LOST; i++) {
                all += ends[i];
            }
            return all;
        }
    }

    /** Drift without light, reckoned backward, and by where one was seen. */
    private static final class Drifts {
        private static final int MOST_SEEN = 49, ANYWHERE = 64;
        private final Sea sea;

        Drifts(Sea sea) {
            this.sea = sea;
        }

        /** The CELLS from which drift alone brings one to a CELL in n nights. */
        long ago(int cell, int n) {
            long there = 1L << cell;
            for (int night = 0; night < n; night++) {
                long before = 0;
                for (int i = 0; i < CELLS; i++) {
                    if ((there >>> sea.carried(i) & 1) != 0) {
                        before |= 1L << i;
                    }
                }
                there = before;
            }
            return there;
        }

        /** The first sighting that does not fit one who is in a CELL now; NOT. */
        int firstUnlike(Shelf sightings, int cell, boolean isHome) {
            int at = cell;
            boolean stays = isHome;
            for (int i = 0; i < sightings.length && i < MOST_SEEN; i++) {
                if (sightings.number(i) != ANYWHERE && sightings.number(i) != at) {
                    return i;
                }
                at = stays ? at : sea.carried(at);
                stays = stays || at == sea.lamp;
            }
            return NOT;
        }

        /** In how many CELLS he might be now by which all sightings fit, or the least of them. */
        int from(Shelf sightings, boolean isHome, boolean wantsLeast) {
            int fitting = 0;
            for (int i = 0; i < CELLS; i++) {
                if (firstUnlike(sightings, i, isHome) == NOT) {
                    if (wantsLeast) {
                        return i;
                    }
                    fitting++;
                }
            }
            return wantsLeast ? NOT : fitting;
        }
    }

    // ---- rules

    /** RULES as read from a row: first[i] comes ahead of then[i]. */
    private static final class Rules {
        private static final int MOST = 20;
        private final int[] first = new int[MOST];
        private final int[] then = new int[MOST];
        private int all;
        private int lost;
        /** By who have come, as bits: the fewest RULES broken by then. */
        private final int[] broken = new int[1 << MOST_LOST];

        void read(Shelf row, int lostOnes) {
            lost = lostOnes;
            all = 0;
            for (int i = 0; i + 1 < row.length && all < MOST; i += 2) {
                int one = row.number(i);
                int other = row.number(i + 1);
                if (one != other && isLostOne(one) && isLostOne(other)) {
                    first[all] = one;
                    then[all] = other;
                    all++;
                }
            }
        }

        private boolean isLostOne(int one) {
            return one >= 0 && one < lost;
        }

        /** How many RULES want one behind another who has not come. */
        private int lacking(int one, int came) {
            int lacking = 0;
            for (int i = 0; i < all; i++) {
                lacking += then[i] == one && (came >> first[i] & 1) == 0 ? 1 : 0;
            }
            return lacking;
        }

        private boolean isNext(int one, int came) {
            return (came >> one & 1) == 0 && lacking(one, came) == 0;
        }

        int next(int came) {
            int bits = 0;
            for (int i = 0; i < lost; i++) {
                bits |= isNext(i, came) ? 1 << i : 0;
            }
            return bits;
        }

        /** The k-th in order; all are ordered even so, since a ring behind him leaves no order. */
        int inOrder(int k) {
            int came = 0;
            int kth = NOT;
            for (int i = 0; i < lost; i++) {
                int one = 0;
                while (one < lost && !isNext(one, came)) {
                    one++;
                }
                if (one == lost) {
                    return NOT;
                }
                kth = i == k ? one : kth;
                came |= 1 << one;
            }
            return kth;
        }

        int smallestRing() {
            int smallest = NOT;
            for (int i = 0; i < lost; i++) {
                int ring = ringFrom(i);
                if (ring > 0 && (smallest == NOT || ring < smallest)) {
                    smallest = ring;
                }
            }
            return smallest;
        }

        /** The length of the shortest way by RULES from one back to himself; 0: none. */
        private int ringFrom(int one) {
            int reached = 1 << one;
            for (int steps = 1; steps <= lost; steps++) {
                int further = 0;
                for (int i = 0; i < all; i++) {
                    further |= (reached >> first[i] & 1) << then[i];
                }
                if ((further >> one & 1) != 0) {
                    return steps;
                }
                reached = further;
            }
            return 0;
        }

        /** Letting all come in the order that breaks fewest RULES: those it breaks are dropped. */
        int fewestDropped() {
            int everyone = (1 << lost) - 1;
            broken[0] = 0;
            for (int came = 1; came <= everyone; came++) {
                int fewest = MOST;
                for (int last = 0; last < lost; last++) {
                    if ((came >> last & 1) != 0) {
                        int before = came ^ 1 << last;
                        fewest = Math.min(fewest, broken[before] + lacking(last, before));
                    }
                }
                broken[came] = fewest;
            }
            return broken[everyone];
        }
    }

    // ---- changes

    /** CHANGES by mend(): those below `done` may be UNDONE, those from there on DONE AGAIN. */
    private static final class Changes {
        private static final int MOST = 40;
        final int[] number = new int[MOST];
        final int[] what = new int[MOST];
        final int[] was = new int[MOST];
        final int[] became = new int[MOST];
        int done;
        int all;

        boolean isKept(int i) {
            return i >= 0 && i < all;
        }

        void add(int aNumber, int aWhat, int before, int after) {
            if (done >= MOST) {
                dropOldest();
            }
            number[done] = aNumber;
            what[done] = aWhat;
            was[done] = before;
            became[done] = after;
            done++;
            all = done;
        }

        private void dropOldest() {
            System.arraycopy(number, 1, number, 0, MOST - 1);
            System.arraycopy(what, 1, what, 0, MOST - 1);
            System.arraycopy(was, 1, was, 0, MOST - 1);
            System.arraycopy(became, 1, became, 0, MOST - 1);
            done = MOST - 1;
        }
    }

    // ---- kinds of nights

    /** NIGHTS kept by call, their KINDS, and what runs when one acts. */
    private static final class Acts {
        private static final int MOST_BODIES = 50, MOST_TRACED = 24, KINDS = 8, ACTS = 4, MOST_DEEP = 40;
        private static final int TURNS = 0, BURNS_ACT = 1, WARNS = 2, TELLS = 3;
        private static final int[] ABOVE = {-1, 0, 0, 2, 1, 3, 0, 4};
        /** By KIND and act, the body that this KIND has of its own; NIGHT has those of its interfaces. */
        private static final int[] OWN = {
            1, 10, 11, 2,
            20, 0, 0, 0,
            0, 30, 0, 0,
            0, 41, 40, 0,
            0, 0, 50, 0,
            0, 0, 0, 60,
            70, 0, 0, 0,
            0, 80, 0, 81,
        };

        final int[] kinds = new int[MOST_BODIES];
        int bodies;
        final int[] traced = new int[MOST_TRACED];
        int ran;

        boolean isKind(int kind) {
            return kind >= 0 && kind < KINDS;
        }

        boolean isBody(int body) {
            return body >= 0 && body < bodies;
        }

        boolean isFull() {
            return bodies >= MOST_BODIES;
        }

        boolean isTraced(int i) {
            return i >= 0 && i < ran && i < MOST_TRACED;
        }

        int add(int kind) {
            kinds[bodies] = kind;
            bodies++;
            return bodies - 1;
        }

        boolean isUnder(int kind, int above) {
            int at = kind;
            for (int i = 0; i < KINDS && at >= 0; i++) {
                if (at == above) {
                    return true;
                }
                at = ABOVE[at];
            }
            return false;
        }

        int start(int body, int act, int x) {
            ran = 0;
            if (!isBody(body) || act < 0 || act >= ACTS) {
                return 0;
            }
            return any(body, act, x, 0);
        }

        /** An act by the body of its own KIND or the next above. */
        private int any(int n, int act, int x, int deep) {
            return run(n, kinds[n], act, x, deep);
        }

        private int run(int n, int kind, int act, int x, int deep) {
            int at = kind;
            for (int i = 0; i < KINDS && at > 0 && OWN[at * ACTS + act] == 0; i++) {
                at = ABOVE[at];
            }
            if (at < 0 || deep > MOST_DEEP) {
                return 0;
            }
            int body = OWN[at * ACTS + act];
            if (ran < MOST_TRACED) {
                traced[ran] = body;
            }
            ran++;
            return perform(body, n, ABOVE[at], x, deep + 1);
        }

        private int perform(int body, int n, int above, int x, int deep) {
            switch (body) {
                case 1:
                    return x + n;
                case 2:
                    return any(n, BURNS_ACT, x, deep) - any(n, WARNS, 1, deep);
                case 10:
                    return any(n, TURNS, x, deep) * 2;
                case 11:
                    return x ^ n;
                case 20:
                    return run(n, above, TURNS, x, deep) + 3;
                case 30:
                    return -run(n, above, BURNS_ACT, x, deep);
                case 40:
                    return run(n, above, WARNS, x, deep) * 3;
                case 41:
                    return run(n, above, BURNS_ACT, x + 1, deep);
                case 50:
                    return run(n, above, WARNS, x, deep) - any(n, TURNS, 2, deep);
                case 60:
                    return run(n, above, TELLS, x, deep) ^ 5;
                case 70:
                    return run(n, above, TURNS, x, deep) * 2;
                case 80:
                    return run(n, above, BURNS_ACT, x, deep) + any(n, WARNS, 2, deep);
                case 81:
                    return run(n, above, TELLS, x, deep) - 1;
                default:
                    return 0;
            }
        }
    }

    // ---- shelves

    /** A SHELF. Its places are made once and used for every ROW, of whatever sort. */
    private static final class Shelf {
        static final int BYTES = 0, SHORTS = 1, INTS = 2, LONGS = 3, BOOLEANS = 4, LONGEST = 60;
        private static final int NO_ROW = -1, NO_BODY = -1;

        final long[] items = new long[LONGEST];
        int sort = NO_ROW;
        int length;
        int body = NO_BODY;

        boolean isEmpty() {
            return sort == NO_ROW && body == NO_BODY;
        }

        boolean isRow() {
            return sort != NO_ROW;
        }

        boolean isRowOfBytes() {
            return sort == BYTES;
        }

        boolean hasPlaces(int i, int n) {
            return i >= 0 && n >= 0 && n <= length && i <= length - n;
        }

        void holdBody(int aBody) {
            body = aBody;
            sort = NO_ROW;
            length = 0;
        }

        void holdRow(int aSort, int n) {
            body = NO_BODY;
            sort = aSort;
            length = n;
            for (int i = 0; i < n; i++) {
                items[i] = 0;
            }
        }

        int number(int i) {
            return (int) items[i];
        }

        void set(int i, long v) {
            items[i] = lowestBits(v);
        }

        private long lowestBits(long v) {
            switch (sort) {
                case BYTES:
                    return (byte) v;
                case SHORTS:
                    return (short) v;
                case INTS:
                    return (int) v;
                case LONGS:
                    return v;
                default:
                    return v != 0 ? 1 : 0;
            }
        }
    }
}
