import java.util.Arrays;

/** How fast to cut: pieces in a row, cut in passes at speeds that wear the edge. */
public final class EdgeAndSpeed {
    public static final int BAD = -1, NO = -2, FULL = -3, NONE = -4;

    private static final long LEAST = -9223372036854775808L, LEAST_NO = LEAST + 2, LEAST_NONE = LEAST + 4;
    private static final int TEXT_BYTES = 500, SPEEDS = 6, PIECES = 8, STEPS = 8, STEELS = 4;
    private static final int HANDS = 6, LOG_ROWS = 20, KEPT = 2;
    private static final int MOST_WEAR = 100, WEARS = MOST_WEAR + 1, STATES = PIECES * STEPS * WEARS;
    private static final int PASSES = SPEEDS * STEPS, CHANGE = 48, LEAVE = 49;
    private static final int BEST = 0, SET = 1, COUNT = 2, SIGNS = 3, QUICK = 4, SLOW = 5;
    private static final int PENNY = 6000, HOUR = 6000;

    private final Text text = new Text();
    private final Bench bench = new Bench();
    private final Bench draft = new Bench();
    private final Habits habits = new Habits();
    private final Habits[] kept = new Habits[KEPT];
    private int keptRows;
    private final Hands hands;
    private final Walk walk;
    private final Trial trial;
    private final Parting parting;
    private final Lathes lathes = new Lathes();
    private final Shop shop;

    public EdgeAndSpeed() {
        bench.layFirst();
        for (int i = 0; i < kept.length; i++) {
            kept[i] = new Habits();
        }
        hands = new Hands(bench, habits);
        walk = new Walk(bench, hands);
        trial = new Trial(bench, hands);
        parting = new Parting(bench);
        shop = new Shop(bench);
    }

    // ---- benches

    public int write(int n, long v) {
        if (!within(n, 1, 8)) {
            return BAD;
        }
        return text.append(n, v) ? text.length : FULL;
    }

    public int wipe() {
        int was = text.length;
        text.length = 0;
        return was;
    }

    public int fault() {
        return text.readInto(draft);
    }

    public int lay() {
        if (text.readInto(draft) != NONE || draft.speeds == 0 || draft.pieces == 0) {
            return NO;
        }
        text.readInto(bench);
        hands.forget();
        habits.reset();
        keptRows = 0;
        return bench.pieces;
    }

    public int pass(int piece, int speed, int d, int steel, int what) {
        if (!bench.hasPiece(piece) || !bench.hasSpeed(speed) || !bench.hasSteel(steel)) {
            return BAD;
        }
        if (!within(d, 1, STEPS) || !within(what, 0, 2)) {
            return BAD;
        }
        if (what == 0) {
            return bench.minutes(piece, speed);
        }
        return what == 1 ? bench.wears(piece, speed, d, steel) : bench.mayCut(speed, d) ? 1 : 0;
    }

    public int breaks(int wear) {
        return within(wear, 0, MOST_WEAR) ? bench.breaking[wear] : BAD;
    }

    // ---- hands

    public int hand(int what, int v) {
        switch (what) {
            case 0: return bench.hasSpeed(v) ? habits.swapSpeed(v) : BAD;
            case 1: return within(v, 0, MOST_WEAR) ? habits.swapLimit(v) : BAD;
            case 2: return within(v, 1, 8) ? habits.swapEvery(v) : BAD;
            default: return BAD;
        }
    }

    public int does(int hand, int steel, int piece, int left, int wear) {
        if (!isHandIn(hand, steel) || !bench.isState(piece, left, wear)) {
            return BAD;
        }
        hands.prepare(hand, steel);
        return hands.choose(hand, steel, piece, left, wear);
    }

    public long value(int hand, int steel, int piece, int left, int wear) {
        if (!isHandIn(hand, steel) || !bench.isState(piece, left, wear)) {
            return LEAST;
        }
        hands.prepare(hand, steel);
        walk.spread(hand, steel, steel, piece, left, wear);
        return walk.gain(Measure.VALUE);
    }

    public long mean(int hand, int steel, int piece, int left, int wear, int what) {
        if (!isHandIn(hand, steel) || !bench.isState(piece, left, wear) || !within(what, 0, 1)) {
            return BAD;
        }
        hands.prepare(hand, steel);
        walk.spread(hand, steel, steel, piece, left, wear);
        return walk.gain(what == 0 ? Measure.MINUTES : Measure.SPOILT);
    }

    public int judge(int hand, int steel) {
        if (!isHandIn(hand, steel)) {
            return BAD;
        }
        hands.prepare(hand, steel);
        hands.prepare(BEST, steel);
        walk.spread(hand, steel, steel, 0, bench.stepsOf(0), 0);
        return walk.firstWorse(hands.bestBy(steel));
    }

    public long parted(int piece, int steel, int wear, int what) {
        if (!bench.hasPiece(piece) || !bench.hasSteel(steel)) {
            return BAD;
        }
        if (!within(wear, 0, MOST_WEAR) || !within(what, 0, 2)) {
            return BAD;
        }
        parting.find(piece, steel);
        return parting.told(bench.stepsOf(piece), wear, what);
    }

    // ---- steels

    public long guess(int g, int h) {
        if (!bench.hasSteel(g) || !bench.hasSteel(h)) {
            return LEAST;
        }
        hands.prepare(BEST, g);
        walk.spread(BEST, g, h, 0, bench.stepsOf(0), 0);
        return walk.gain(Measure.VALUE);
    }

    public long blind(int what) {
        if (!within(what, 0, 3)) {
            return LEAST;
        }
        for (int h = 0; h < bench.steels; h++) {
            hands.prepare(BEST, h);
        }
        int best = 0;
        long blindSum = guessedSum(0);
        for (int g = 1; g < bench.steels; g++) {
            long sum = guessedSum(g);
            if (sum > blindSum) {
                best = g;
                blindSum = sum;
            }
        }
        if (what < 2) {
            return what == 0 ? best : blindSum;
        }
        return what == 2 ? knownSum() : knownSum() - blindSum;
    }

    private long guessedSum(int g) {
        long sum = 0;
        for (int h = 0; h < bench.steels; h++) {
            walk.spread(BEST, g, h, 0, bench.stepsOf(0), 0);
            sum += bench.tenthsOf(h) * walk.gain(Measure.VALUE);
        }
        return sum;
    }

    private long knownSum() {
        long sum = 0;
        for (int h = 0; h < bench.steels; h++) {
            sum += bench.tenthsOf(h) * hands.bestBy(h).gainAtStart(0, 0);
        }
        return sum;
    }

    // ---- men, shops

    public int two(int a, int x, int b, int y, int what) {
        if (!within(a, 1, 99) || !within(x, 1, 30) || !within(b, 1, 99) || !within(y, 1, 30)) {
            return BAD;
        }
        if (!within(what, 0, 2)) {
            return BAD;
        }
        return lathes.goRound(a, x, b, y) ? lathes.told(what) : NONE;
    }

    public long earns(int piece, int speed, int t) {
        if (!bench.hasPiece(piece) || !bench.hasSpeed(speed) || !within(t, 1, 9999)) {
            return LEAST;
        }
        return shop.mayBe(piece, speed) ? shop.earned(piece, speed, t) : LEAST_NO;
    }

    public int shop(int piece, int t) {
        return bench.hasPiece(piece) && within(t, 1, 9999) ? shop.speedFor(piece, t) : BAD;
    }

    public long pay(int piece, int u, int e, int what) {
        if (!bench.hasPiece(piece) || !within(u, 0, 99) || !within(e, 0, 99) || !within(what, 0, 1)) {
            return what == 1 ? LEAST : BAD;
        }
        int speed = shop.speedOfMan(piece, u, e);
        if (speed < 0) {
            return what == 1 ? LEAST_NONE : NONE;
        }
        return what == 1 ? shop.leftToShop(piece, speed, u) : speed;
    }

    public int bestPay(int piece, int e) {
        return bench.hasPiece(piece) && within(e, 0, 99) ? shop.payFor(piece, e) : BAD;
    }

    // ---- logs, runs

    public int log(int piece, int left, int wear, int act) {
        if (!bench.isState(piece, left, wear) || !within(act, 0, PASSES - 1) || !bench.isPass(act, left)) {
            return BAD;
        }
        return habits.note(wear, speedOf(act)) ? habits.rows : FULL;
    }

    public int noLog() {
        int had = habits.rows;
        habits.rows = 0;
        return had;
    }

    public int off(int i, int a, int j) {
        if (!bench.hasSpeed(i) || !bench.hasSpeed(j) || !within(a, 0, MOST_WEAR)) {
            return BAD;
        }
        return habits.offBy(i, a, j);
    }

    public int plainest(int what) {
        return within(what, 0, 3) ? habits.plainestRule(bench.speeds, what) : BAD;
    }

    public long run(int hand, int steel, int z, int what) {
        if (!isHandIn(hand, steel) || !within(z, 0, 9999) || !within(what, 0, 4)) {
            return BAD;
        }
        hands.prepare(hand, steel);
        trial.go(hand, steel, z);
        return trial.told(what);
    }

    public int keep() {
        if (!within(keptRows, 0, kept.length - 1)) {
            return FULL;
        }
        kept[keptRows].copy(habits);
        keptRows++;
        return keptRows;
    }

    public int back() {
        if (!within(keptRows, 1, kept.length)) {
            return NO;
        }
        keptRows--;
        habits.copy(kept[keptRows]);
        return keptRows;
    }

    public int count(int what) {
        switch (what) {
            case 0: return bench.speeds;
            case 1: return bench.pieces;
            case 2: return bench.steels;
            case 3: return text.length;
            case 4: return habits.rows;
            case 5: return keptRows;
            default: return BAD;
        }
    }

    // ---- what all of them use

    private boolean isHandIn(int hand, int steel) {
        return within(hand, 0, HANDS - 1) && bench.hasSteel(steel);
    }

    private static boolean within(int v, int least, int most) {
        return v >= least && v <= most;
    }

    /** What stands in a row at a place; 0 where there is no such place. */
    private static int at(int[] row, int place) {
        return place >= 0 && place < row.length ? row[place] : 0;
    }

    private static int speedOf(int act) {
        return act / STEPS;
    }

    private static int depthOf(int act) {
        return act % STEPS + 1;
    }

    /** THE TEXT, and how it is read. */
    static final class Text {
        private final byte[] bytes = new byte[TEXT_BYTES];
        private final int[] told = new int[4];
        private int length;
        private int place;

        boolean append(int n, long v) {
            if (length + n > bytes.length) {
                return false;
            }
            for (int k = n - 1; k >= 0; k--) {
                bytes[length] = (byte) (v >>> (8 * k));
                length++;
            }
            return true;
        }

        /** Puts what the text tells into a bench; answers the FAULT, or NONE. */
        int readInto(Bench into) {
            into.clear();
            place = 0;
            for (int items = 0; items < TEXT_BYTES && place < length; items++) {
                int begin = place;
                int letter = byteAt(place);
                if (!readNumbers(numbersOf(letter)) || !into.take(letter, told)) {
                    return begin;
                }
            }
            return into.finish() ? NONE : length;
        }

        private static int numbersOf(int letter) {
            switch (letter) {
                case 'h': return 1;
                case 'v': case 'b': case 'c': case 'k': case 't': return 2;
                case 'p': return 4;
                default: return 0;
            }
        }

        /** Reads an item's numbers from behind its letter; then place is the next item's. */
        private boolean readNumbers(int many) {
            place++;
            for (int i = 0; i < many; i++) {
                if (!readNumber(i) || byteAt(place) != (i + 1 < many ? ',' : ';')) {
                    return false;
                }
                place++;
            }
            return many > 0;
        }

        private boolean readNumber(int i) {
            int number = 0;
            int figures = 0;
            while (figures < 4 && within(byteAt(place), '0', '9')) {
                number = 10 * number + byteAt(place) - '0';
                figures++;
                place++;
            }
            if (!within(i, 0, told.length - 1)) {
                return false;
            }
            told[i] = number;
            return within(figures, 1, 3);
        }

        private int byteAt(int i) {
            return i >= 0 && i < length && i < bytes.length ? bytes[i] & 255 : 0;
        }
    }

    /** What is laid: speeds, pieces, edges, steels. */
    static final class Bench {
        private final int[] inches = new int[SPEEDS];
        private final int[] wearing = new int[SPEEDS];
        private final int[] lengths = new int[PIECES];
        private final int[] depths = new int[PIECES];
        private final int[] fines = new int[PIECES];
        private final int[] worths = new int[PIECES];
        private final int[] hardness = new int[STEELS];
        private final int[] tenths = new int[STEELS];
        private final int[] breaking = new int[WEARS];
        private int speeds;
        private int pieces;
        private int steels;
        private int changeMinutes;
        private int changePence;
        private int hourPence;
        private int mostSteps;
        private int mostWork;

        void layFirst() {
            clear();
            takeSpeed(10, 10);
            takePiece(10, 1, 100, 10);
            finish();
        }

        void clear() {
            speeds = 0;
            pieces = 0;
            steels = 0;
            changeMinutes = 4;
            changePence = 9;
            hourPence = 60;
            mostSteps = STEPS;
            mostWork = 999;
            Arrays.fill(breaking, -1);
        }

        /** Takes what one item tells; false if it is not so. */
        boolean take(int letter, int[] told) {
            int a = at(told, 0);
            int b = at(told, 1);
            switch (letter) {
                case 'v': return takeSpeed(a, b);
                case 'p': return takePiece(a, b, at(told, 2), at(told, 3));
                case 'b': return takeBreak(a, b);
                case 'c': return takeChange(a, b);
                case 'h': return takeHour(a);
                case 'k': return takeMost(a, b);
                case 't': return takeSteel(a, b);
                default: return false;
            }
        }

        private boolean takeSpeed(int q, int w) {
            if (!within(q, 1, 99) || !within(w, 0, 999) || !within(speeds, 0, SPEEDS - 1)) {
                return false;
            }
            inches[speeds] = q;
            wearing[speeds] = w;
            speeds++;
            return true;
        }

        private boolean takePiece(int l, int d, int x, int m) {
            if (!within(l, 1, 99) || !within(d, 1, STEPS) || !within(x, 0, MOST_WEAR)) {
                return false;
            }
            if (!within(m, 0, 999) || !within(pieces, 0, PIECES - 1)) {
                return false;
            }
            lengths[pieces] = l;
            depths[pieces] = d;
            fines[pieces] = x;
            worths[pieces] = m;
            pieces++;
            return true;
        }

        private boolean takeBreak(int a, int b) {
            if (!within(a, 0, MOST_WEAR) || !within(b, 0, 100)) {
                return false;
            }
            breaking[a] = b;
            return true;
        }

        private boolean takeChange(int m, int p) {
            if (!within(m, 0, 99) || !within(p, 0, 99)) {
                return false;
            }
            changeMinutes = m;
            changePence = p;
            return true;
        }

        private boolean takeHour(int p) {
            if (!within(p, 0, 999)) {
                return false;
            }
            hourPence = p;
            return true;
        }

        private boolean takeMost(int k, int o) {
            if (!within(k, 1, STEPS) || !within(o, 1, 999)) {
                return false;
            }
            mostSteps = k;
            mostWork = o;
            return true;
        }

        private boolean takeSteel(int h, int c) {
            if (!within(h, 1, 400) || !within(c, 0, 10) || !within(steels, 0, STEELS - 1)) {
                return false;
            }
            hardness[steels] = h;
            tenths[steels] = c;
            steels++;
            return true;
        }

        /** Ends the text: each wear breaks as the last told one below it; false if the steels' tenths are not 10. */
        boolean finish() {
            if (steels == 0) {
                takeSteel(100, 10);
            }
            int last = 0;
            for (int wear = 0; wear < breaking.length; wear++) {
                last = breaking[wear] < 0 ? last : breaking[wear];
                breaking[wear] = last;
            }
            int sum = 0;
            for (int h = 0; h < steels; h++) {
                sum += tenthsOf(h);
            }
            return sum == 10;
        }

        boolean hasPiece(int piece) {
            return within(piece, 0, pieces - 1);
        }

        boolean hasSpeed(int speed) {
            return within(speed, 0, speeds - 1);
        }

        boolean hasSteel(int steel) {
            return within(steel, 0, steels - 1);
        }

        boolean isState(int piece, int left, int wear) {
            return hasPiece(piece) && within(left, 1, stepsOf(piece)) && within(wear, 0, MOST_WEAR);
        }

        /** Whether a pass's number is one that can be done with so many steps left. */
        boolean isPass(int act, int left) {
            int d = depthOf(act);
            return hasSpeed(speedOf(act)) && d <= left && mayCut(speedOf(act), d);
        }

        int stepsOf(int piece) {
            return at(depths, piece);
        }

        int fineOf(int piece) {
            return at(fines, piece);
        }

        int worthOf(int piece) {
            return at(worths, piece);
        }

        int inchesOf(int speed) {
            return at(inches, speed);
        }

        int tenthsOf(int steel) {
            return at(tenths, steel);
        }

        boolean mayCut(int speed, int d) {
            return d <= mostSteps && at(inches, speed) * d <= mostWork;
        }

        /** The most steps that a speed may cut of those left; 0 if none. */
        int deepest(int speed, int left) {
            int q = at(inches, speed);
            return q < 1 ? 0 : Math.min(left, Math.min(mostSteps, mostWork / q));
        }

        int slowest() {
            int slow = 0;
            for (int i = 1; i < speeds; i++) {
                slow = at(wearing, i) < at(wearing, slow) ? i : slow;
            }
            return slow;
        }

        /** Hundredths of a minute of a pass, rounded up. */
        int minutes(int piece, int speed) {
            int q = at(inches, speed);
            return q < 1 ? 0 : (100 * at(lengths, piece) + q - 1) / q;
        }

        int wears(int piece, int speed, int d, int steel) {
            return at(lengths, piece) * at(wearing, speed) * d * at(hardness, steel) / 10000;
        }

        /** Hundredths by which an edge breaks in a pass that wears so much. */
        int risk(int wear, int wears) {
            return wear + wears > MOST_WEAR ? 100 : at(breaking, wear);
        }

        long cost(int minutes, int pence) {
            return (long) minutes * hourPence + (long) PENNY * pence;
        }

        int changeHundredths() {
            return 100 * changeMinutes;
        }

        long changeCost() {
            return cost(changeHundredths(), changePence);
        }
    }

    /** By what it is measured what comes of pieces: by each of a piece's pennies, a piece done, one spoilt, time, cost. */
    enum Measure {
        VALUE(PENNY, 0, 0, 0, -1),
        HASTE(0, 100000, 0, -1, 0),
        MINUTES(0, 0, 0, 1, 0),
        SPOILT(0, 0, 1000000, 0, 0);

        private final long byPenny;
        private final long byDone;
        private final long bySpoilt;
        private final long byMinutes;
        private final long byCost;

        Measure(long byPenny, long byDone, long bySpoilt, long byMinutes, long byCost) {
            this.byPenny = byPenny;
            this.byDone = byDone;
            this.bySpoilt = bySpoilt;
            this.byMinutes = byMinutes;
            this.byCost = byCost;
        }

        long ofDone(int pence) {
            return byPenny * pence + byDone;
        }

        long ofSpending(int minutes, long cost) {
            return byMinutes * minutes + byCost * cost;
        }
    }

    /** What is done in each state, and what comes of it, by a measure in a steel. */
    static final class Plan {
        private static final int NOTHING = -1;
        private final Bench bench;
        private final long[] gains = new long[STATES];
        private final byte[] acts = new byte[STATES];
        private Measure by = Measure.VALUE;
        private int steel;
        private long ofChange;
        private boolean solved;

        Plan(Bench bench) {
            this.bench = bench;
        }

        void clear() {
            Arrays.fill(acts, (byte) NOTHING);
            solved = false;
        }

        void measure(Measure by, int steel) {
            this.by = by;
            this.steel = steel;
            ofChange = by.ofSpending(bench.changeHundredths(), bench.changeCost());
        }

        private static int placeOf(int piece, int left, int wear) {
            return (piece * STEPS + left - 1) * WEARS + wear;
        }

        int actAt(int piece, int left, int wear) {
            int place = placeOf(piece, left, wear);
            return place >= 0 && place < acts.length ? acts[place] : NOTHING;
        }

        void setAct(int piece, int left, int wear, int act) {
            int place = placeOf(piece, left, wear);
            if (place >= 0 && place < acts.length) {
                acts[place] = (byte) act;
            }
        }

        long gainAt(int piece, int left, int wear) {
            int place = placeOf(piece, left, wear);
            return place >= 0 && place < gains.length ? gains[place] : 0;
        }

        void setGain(int piece, int left, int wear, long gain) {
            int place = placeOf(piece, left, wear);
            if (place >= 0 && place < gains.length) {
                gains[place] = gain;
            }
        }

        /** What comes from a piece's first state on; behind the last piece nothing. */
        long gainAtStart(int piece, int wear) {
            return bench.hasPiece(piece) ? gainAt(piece, bench.stepsOf(piece), wear) : 0;
        }

        /** What comes of doing this in a state, with what stands in the states behind it. */
        long gainOf(int act, int piece, int left, int wear) {
            if (act == CHANGE) {
                return gainAt(piece, left, 0) + ofChange;
            }
            if (act == LEAVE) {
                return by.bySpoilt + gainAtStart(piece + 1, wear);
            }
            int leftThen = left - depthOf(act);
            int wears = bench.wears(piece, speedOf(act), depthOf(act), steel);
            return comes(piece, leftThen, wear, wears, ofBreaking(piece)) + ofTime(piece, speedOf(act));
        }

        private long ofTime(int piece, int speed) {
            int minutes = bench.minutes(piece, speed);
            return by.ofSpending(minutes, bench.cost(minutes, 0));
        }

        private long ofBreaking(int piece) {
            return by.bySpoilt + ofChange + gainAtStart(piece + 1, 0);
        }

        /** The mean of what comes of a pass, behind which so much is left, unbroken and broken. */
        private long comes(int piece, int leftThen, int wear, int wears, long ofBreaking) {
            int risk = bench.risk(wear, wears);
            if (risk == 100) {
                return ofBreaking;
            }
            long whole = leftThen > 0 ? gainAt(piece, leftThen, wear + wears)
                    : ofEnd(piece, wear) + gainAtStart(piece + 1, wear + wears);
            return risk == 0 ? whole : ((100 - risk) * whole + risk * ofBreaking) / 100;
        }

        private long ofEnd(int piece, int wear) {
            return wear > bench.fineOf(piece) ? by.bySpoilt : by.ofDone(bench.worthOf(piece));
        }

        /** Fills the plan with what is best in each state, if it is not yet filled so. */
        void solve(Measure by, int steel) {
            if (solved) {
                return;
            }
            clear();
            measure(by, steel);
            for (int piece = bench.pieces - 1; piece >= 0; piece--) {
                for (int left = 1; left <= bench.stepsOf(piece); left++) {
                    for (int act = 0; act < PASSES; act++) {
                        offerPass(act, piece, left);
                    }
                    offerRest(piece, left);
                }
            }
            solved = true;
        }

        private void offerPass(int act, int piece, int left) {
            if (!bench.isPass(act, left)) {
                return;
            }
            int leftThen = left - depthOf(act);
            int wears = bench.wears(piece, speedOf(act), depthOf(act), steel);
            long ofTime = ofTime(piece, speedOf(act));
            long ofBreaking = ofBreaking(piece);
            for (int wear = 0; wear <= MOST_WEAR; wear++) {
                offer(act, piece, left, wear, comes(piece, leftThen, wear, wears, ofBreaking) + ofTime);
            }
        }

        /** Wear 0 comes first: a change leads to it from each other wear. */
        private void offerRest(int piece, int left) {
            for (int wear = 0; wear <= MOST_WEAR; wear++) {
                if (wear > 0) {
                    offer(CHANGE, piece, left, wear, gainAt(piece, left, 0) + ofChange);
                }
                offer(LEAVE, piece, left, wear, by.bySpoilt + gainAtStart(piece + 1, wear));
            }
        }

        /** Of several the lowest number: what is offered later must be greater. */
        private void offer(int act, int piece, int left, int wear, long gain) {
            int place = placeOf(piece, left, wear);
            if (place < 0 || place >= gains.length || place >= acts.length) {
                return;
            }
            if (acts[place] == NOTHING || gain > gains[place]) {
                acts[place] = (byte) act;
                gains[place] = gain;
            }
        }
    }

    /** The numbers of the hands, and the log of an old one. */
    static final class Habits {
        private final int[] wears = new int[LOG_ROWS];
        private final int[] speeds = new int[LOG_ROWS];
        private int rows;
        private int speed;
        private int limit = MOST_WEAR;
        private int every = 8;

        void reset() {
            rows = 0;
            speed = 0;
            limit = MOST_WEAR;
            every = 8;
        }

        void copy(Habits other) {
            rows = other.rows;
            speed = other.speed;
            limit = other.limit;
            every = other.every;
            System.arraycopy(other.wears, 0, wears, 0, LOG_ROWS);
            System.arraycopy(other.speeds, 0, speeds, 0, LOG_ROWS);
        }

        int swapSpeed(int to) {
            int was = speed;
            speed = to;
            return was;
        }

        int swapLimit(int to) {
            int was = limit;
            limit = to;
            return was;
        }

        int swapEvery(int to) {
            int was = every;
            every = to;
            return was;
        }

        boolean note(int wearThen, int speedThen) {
            if (!within(rows, 0, LOG_ROWS - 1)) {
                return false;
            }
            wears[rows] = wearThen;
            speeds[rows] = speedThen;
            rows++;
            return true;
        }

        int offBy(int i, int a, int j) {
            int off = 0;
            for (int row = 0; row < rows && row < LOG_ROWS; row++) {
                int told = wears[row] < a ? i : j;
                off += told == speeds[row] ? 0 : 1;
            }
            return off;
        }

        /** A number of the plainest rule: i (0), a (1), j (2), how far it is off (3). */
        int plainestRule(int many, int what) {
            int best = rankOf(0, 0, 0);
            for (int i = 0; i < many; i++) {
                best = Math.min(best, rankOf(i, 0, i));
                for (int a = 0; a <= MOST_WEAR; a++) {
                    for (int j = 0; j < many; j++) {
                        best = i == j ? best : Math.min(best, rankOf(i, a, j));
                    }
                }
            }
            switch (what) {
                case 0: return best / SPEEDS / WEARS % SPEEDS;
                case 1: return best / SPEEDS % WEARS;
                case 2: return best % SPEEDS;
                default: return best / SPEEDS / WEARS / SPEEDS / 2;
            }
        }

        /** The plainer of two rules has the lower rank: off first, then i equal j, then i, a, j. */
        private int rankOf(int i, int a, int j) {
            int rank = 2 * offBy(i, a, j) + (i == j ? 0 : 1);
            return ((rank * SPEEDS + i) * WEARS + a) * SPEEDS + j;
        }
    }

    /** The kinds of hands: what each does in a state. */
    static final class Hands {
        private final Bench bench;
        private final Habits habits;
        private final Plan[] best = new Plan[STEELS];
        private final Plan[] quick = new Plan[STEELS];

        Hands(Bench bench, Habits habits) {
            this.bench = bench;
            this.habits = habits;
            for (int h = 0; h < STEELS; h++) {
                best[h] = new Plan(bench);
                quick[h] = new Plan(bench);
            }
        }

        /** What was planned was planned for another bench. */
        void forget() {
            for (int h = 0; h < STEELS; h++) {
                best[h].clear();
                quick[h].clear();
            }
        }

        /** Plans ahead what a hand does in a steel, if it plans; to be called ahead of choose. */
        void prepare(int hand, int steel) {
            if (hand == BEST) {
                bestBy(steel).solve(Measure.VALUE, steel);
            } else if (hand == QUICK) {
                quickBy(steel).solve(Measure.HASTE, steel);
            }
        }

        Plan bestBy(int steel) {
            return best[within(steel, 0, STEELS - 1) ? steel : 0];
        }

        private Plan quickBy(int steel) {
            return quick[within(steel, 0, STEELS - 1) ? steel : 0];
        }

        int choose(int hand, int steel, int piece, int left, int wear) {
            switch (hand) {
                case SET: return bySpeed(habits.speed, piece, left, wear);
                case COUNT: return byCount(piece, left, wear);
                case SIGNS: return bySpeed(habits.speed, piece, left, wear - wear % 10);
                case SLOW: return bySpeed(bench.slowest(), piece, left, wear);
                case QUICK: return quickBy(steel).actAt(piece, left, wear);
                default: return bestBy(steel).actAt(piece, left, wear);
            }
        }

        private int bySpeed(int speed, int piece, int left, int wear) {
            int d = bench.deepest(speed, left);
            if (d == 0) {
                return LEAVE;
            }
            boolean tooWorn = wear > habits.limit || d == left && wear > bench.fineOf(piece);
            return tooWorn ? CHANGE : passOf(speed, d);
        }

        private int byCount(int piece, int left, int wear) {
            int d = bench.deepest(habits.speed, left);
            if (d == 0) {
                return LEAVE;
            }
            boolean fresh = left == bench.stepsOf(piece) && wear > 0;
            return fresh && isCounted(piece) ? CHANGE : passOf(habits.speed, d);
        }

        private boolean isCounted(int piece) {
            return piece > 0 && habits.every > 0 && piece % habits.every == 0;
        }

        private static int passOf(int speed, int d) {
            return speed * STEPS + d - 1;
        }
    }

    /** Where a hand comes in a steel, and what comes of it. */
    static final class Walk {
        private static final int MARK = 0, NEVER = -1;
        private final Bench bench;
        private final Hands hands;
        private final Plan plan;
        private int hand;
        private int steelThought;
        private int steel;
        private int piece;
        private int left;
        private int wear;

        Walk(Bench bench, Hands hands) {
            this.bench = bench;
            this.hands = hands;
            plan = new Plan(bench);
        }

        /** Sets what is done in each state to which the hand may come; it thinks of one steel, and has one. */
        void spread(int hand, int steelThought, int steel, int piece, int left, int wear) {
            this.hand = hand;
            this.steelThought = steelThought;
            this.steel = steel;
            this.piece = piece;
            this.left = left;
            this.wear = wear;
            plan.clear();
            plan.setAct(piece, left, wear, MARK);
            for (int p = piece; p < bench.pieces; p++) {
                for (int l = bench.stepsOf(p); l >= 1; l--) {
                    // wear 0 last: a change leads to it from each other wear
                    for (int w = MOST_WEAR; w >= 0; w--) {
                        if (plan.actAt(p, l, w) != NEVER) {
                            step(p, l, w);
                        }
                    }
                }
            }
        }

        private void step(int p, int l, int w) {
            int act = hands.choose(hand, steelThought, p, l, w);
            plan.setAct(p, l, w, act);
            if (act == CHANGE) {
                plan.setAct(p, l, 0, MARK);
            } else if (act == LEAVE) {
                markStart(p + 1, w);
            } else {
                markBehindPass(act, p, l, w);
            }
        }

        private void markBehindPass(int act, int p, int l, int w) {
            int d = depthOf(act);
            int wears = bench.wears(p, speedOf(act), d, steel);
            int risk = bench.risk(w, wears);
            if (risk > 0) {
                markStart(p + 1, 0);
            }
            if (risk < 100 && d < l) {
                plan.setAct(p, l - d, w + wears, MARK);
            } else if (risk < 100) {
                markStart(p + 1, w + wears);
            }
        }

        private void markStart(int p, int w) {
            if (bench.hasPiece(p)) {
                plan.setAct(p, bench.stepsOf(p), w, MARK);
            }
        }

        /** What comes by a measure from the state from which it was spread. */
        long gain(Measure by) {
            plan.measure(by, steel);
            for (int p = bench.pieces - 1; p >= piece; p--) {
                for (int l = 1; l <= bench.stepsOf(p); l++) {
                    for (int w = 0; w <= MOST_WEAR; w++) {
                        int act = plan.actAt(p, l, w);
                        if (act != NEVER) {
                            plan.setGain(p, l, w, plan.gainOf(act, p, l, w));
                        }
                    }
                }
            }
            return plan.gainAt(piece, left, wear);
        }

        /** The first state in which what the hand does is worse than the best, told as one number; NONE. */
        int firstWorse(Plan best) {
            for (int p = 0; p < bench.pieces; p++) {
                for (int l = bench.stepsOf(p); l >= 1; l--) {
                    for (int w = 0; w <= MOST_WEAR; w++) {
                        if (isWorse(best, p, l, w)) {
                            return 1000 * p + WEARS * (bench.stepsOf(p) - l) + w;
                        }
                    }
                }
            }
            return NONE;
        }

        private boolean isWorse(Plan best, int p, int l, int w) {
            int act = plan.actAt(p, l, w);
            return act != NEVER && best.gainOf(act, p, l, w) < best.gainAt(p, l, w);
        }
    }

    /** One run of a hand by draws. */
    static final class Trial {
        private static final int MOST_ACTS = 1000;
        private final Bench bench;
        private final Hands hands;
        private int piece;
        private int left;
        private int wear;
        private int passes;
        private int minutes;
        private int done;
        private int spoilt;
        private int changes;

        Trial(Bench bench, Hands hands) {
            this.bench = bench;
            this.hands = hands;
        }

        void go(int hand, int steel, int z) {
            start();
            for (int i = 0; i < MOST_ACTS && bench.hasPiece(piece); i++) {
                int act = hands.choose(hand, steel, piece, left, wear);
                if (act == CHANGE) {
                    change();
                } else if (act == LEAVE) {
                    spoil();
                } else {
                    cut(act, steel, z);
                }
            }
        }

        private void start() {
            piece = 0;
            left = bench.stepsOf(0);
            wear = 0;
            passes = 0;
            minutes = 0;
            done = 0;
            spoilt = 0;
            changes = 0;
        }

        private void change() {
            wear = 0;
            changes++;
            minutes += bench.changeHundredths();
        }

        private void spoil() {
            spoilt++;
            next();
        }

        private void next() {
            piece++;
            left = bench.stepsOf(piece);
        }

        private void cut(int act, int steel, int z) {
            int d = depthOf(act);
            int wears = bench.wears(piece, speedOf(act), d, steel);
            boolean broken = draw(z, passes) < bench.risk(wear, wears);
            minutes += bench.minutes(piece, speedOf(act));
            passes++;
            if (broken) {
                change();
                spoil();
                return;
            }
            boolean coarse = wear > bench.fineOf(piece);
            wear += wears;
            left -= d;
            if (left == 0 && coarse) {
                spoil();
            } else if (left == 0) {
                done++;
                next();
            }
        }

        private static long draw(int z, int t) {
            long x = 7919L * z + 6151L * t + 1;
            return x * x % 65521 % 100;
        }

        /** Hundredths of minutes (0), what they and the changes cost (1), pieces done (2), spoilt (3), changes (4). */
        long told(int what) {
            switch (what) {
                case 0: return minutes;
                case 1: return bench.cost(minutes, bench.changePence * changes);
                case 2: return done;
                case 3: return spoilt;
                default: return changes;
            }
        }
    }

    /** How the passes of a piece are parted best, with one edge that must last. */
    static final class Parting {
        private static final int CELLS = (STEPS + 1) * WEARS;
        private final Bench bench;
        private final long[] costs = new long[CELLS];
        private final int[] passes = new int[CELLS];
        private final int[] firsts = new int[CELLS];

        Parting(Bench bench) {
            this.bench = bench;
        }

        void find(int piece, int steel) {
            Arrays.fill(firsts, NONE);
            for (int left = 1; left <= bench.stepsOf(piece); left++) {
                for (int act = 0; act < PASSES; act++) {
                    if (bench.isPass(act, left)) {
                        offer(act, piece, left, steel);
                    }
                }
            }
        }

        private void offer(int act, int piece, int left, int steel) {
            int d = depthOf(act);
            int wears = bench.wears(piece, speedOf(act), d, steel);
            long cost = bench.cost(bench.minutes(piece, speedOf(act)), 0);
            int most = d == left ? Math.min(MOST_WEAR - wears, bench.fineOf(piece)) : MOST_WEAR - wears;
            for (int wear = 0; wear <= most; wear++) {
                int then = cell(left - d, wear + wears);
                if (d == left) {
                    offerHere(cell(left, wear), act, cost, 1);
                } else if (within(then, 0, CELLS - 1) && firsts[then] != NONE) {
                    offerHere(cell(left, wear), act, cost + costs[then], 1 + passes[then]);
                }
            }
        }

        private void offerHere(int here, int act, long cost, int many) {
            if (!within(here, 0, CELLS - 1)) {
                return;
            }
            boolean even = firsts[here] != NONE && cost == costs[here];
            if (firsts[here] == NONE || cost < costs[here] || even && many < passes[here]) {
                costs[here] = cost;
                passes[here] = many;
                firsts[here] = act;
            }
        }

        private static int cell(int left, int wear) {
            return left * WEARS + wear;
        }

        /** The least cost (0), the passes (1), the first one (2) from a state on; NONE. */
        long told(int left, int wear, int what) {
            int here = cell(left, wear);
            if (!within(here, 0, CELLS - 1) || firsts[here] == NONE) {
                return NONE;
            }
            if (what == 0) {
                return costs[here];
            }
            return what == 1 ? passes[here] : firsts[here];
        }
    }

    /** One man at two lathes. */
    static final class Lathes {
        private static final int LAST = 20000, MOST_SERVINGS = 100000, MOST_WAIT = 100, GAPS = 256;
        private final int[] times = new int[GAPS];
        private final int[] waitsThen = new int[GAPS];
        private int begin;
        private int minutes;
        private int waits;

        /** Serves whom wants first, until the round ends; false if it does not. */
        boolean goRound(int a, int x, int b, int y) {
            Arrays.fill(times, -1);
            int firstWants = a;
            int otherWants = b;
            int free = 0;
            int waited = 0;
            endsRound(0, otherWants, 0);
            for (int i = 0; i < MOST_SERVINGS && free <= LAST; i++) {
                boolean isFirst = firstWants <= otherWants;
                int wants = isFirst ? firstWants : otherWants;
                int serving = Math.max(wants, free);
                waited += serving - wants;
                free = serving + (isFirst ? x : y);
                if (!isFirst) {
                    otherWants = free + b;
                    continue;
                }
                firstWants = free + a;
                if (free <= LAST && endsRound(free, otherWants - free, waited)) {
                    return true;
                }
            }
            return false;
        }

        /** Whether the other lathe's gap was the same at an earlier time; else this time is noted for it. */
        private boolean endsRound(int time, int gap, int waited) {
            int place = gap + MOST_WAIT;
            if (!within(place, 0, GAPS - 1)) {
                return false;
            }
            if (times[place] < 0) {
                times[place] = time;
                waitsThen[place] = waited;
                return false;
            }
            begin = times[place];
            minutes = time - begin;
            waits = waited - waitsThen[place];
            return true;
        }

        int told(int what) {
            if (what == 0) {
                return minutes;
            }
            return what == 1 ? waits : begin;
        }
    }

    /** What a piece earns, cut in one pass, and what the man gets of it. */
    static final class Shop {
        private final Bench bench;

        Shop(Bench bench) {
            this.bench = bench;
        }

        boolean mayBe(int piece, int speed) {
            return bench.mayCut(speed, bench.stepsOf(piece));
        }

        private int wearsOf(int piece, int speed) {
            return bench.wears(piece, speed, bench.stepsOf(piece), 0);
        }

        /** Hundredths of minutes, with the part of a change that the wear takes. */
        private int timeOf(int piece, int speed) {
            return bench.minutes(piece, speed) + wearsOf(piece, speed) * bench.changeMinutes;
        }

        private static long perHour(long sum, int time) {
            return time < 1 ? 0 : sum * HOUR / time;
        }

        long earned(int piece, int speed, int t) {
            long edges = 60L * wearsOf(piece, speed) * bench.changePence;
            long sum = (long) PENNY * bench.worthOf(piece) - edges;
            return perHour(sum, Math.max(timeOf(piece, speed), t)) - (long) PENNY * bench.hourPence;
        }

        /** The speed by which it earns most; NONE. */
        int speedFor(int piece, int t) {
            int best = NONE;
            long most = 0;
            for (int i = 0; i < bench.speeds; i++) {
                if (mayBe(piece, i)) {
                    long earned = earned(piece, i, t);
                    if (best == NONE || earned > most) {
                        best = i;
                        most = earned;
                    }
                }
            }
            return best;
        }

        private long manGets(int piece, int speed, int u) {
            return perHour((long) PENNY * u, timeOf(piece, speed));
        }

        /** The speed that the man takes by his pay and his toil; NONE. */
        int speedOfMan(int piece, int u, int e) {
            int best = NONE;
            long most = 0;
            for (int i = 0; i < bench.speeds; i++) {
                if (mayBe(piece, i)) {
                    long gets = manGets(piece, i, u) - (long) PENNY * e * bench.inchesOf(i);
                    if (best == NONE || gets > most) {
                        best = i;
                        most = gets;
                    }
                }
            }
            return best;
        }

        long leftToShop(int piece, int speed, int u) {
            return earned(piece, speed, 1) - manGets(piece, speed, u);
        }

        /** The pay by which the shop has most; NONE. */
        int payFor(int piece, int e) {
            int best = NONE;
            long most = 0;
            for (int u = 0; u <= 99; u++) {
                int speed = speedOfMan(piece, u, e);
                if (speed != NONE) {
                    long has = leftToShop(piece, speed, u);
                    if (best == NONE || has > most) {
                        best = u;
                        most = has;
                    }
                }
            }
            return best;
        }
    }
}
