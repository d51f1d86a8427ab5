/** Promises 6 to 13: each sentence on passes, states, hands that names a bound, the bound itself and what stands beside it. */
final class StateEdgesTest {
    private static final long LEAST = Long.MIN_VALUE;
    /** Six speeds, eight pieces of 1 to 8 steps, four steels. */
    private static final String FULL_BENCH = "v10,10;v11,20;v12,30;v13,40;v14,50;v15,60;p10,1,50,10;p10,2,50,10;p10,3,50,10;p10,4,50,10;"
            + "p10,5,50,10;p10,6,50,10;p10,7,50,10;p10,8,50,10;t100,1;t110,2;t120,3;t130,4;";

    private StateEdgesTest() {
    }

    public static void main(String[] args) {
        passBounds();
        passRoundedUp();
        passCut();
        breaksBounds();
        handBounds();
        stateBounds();
        numbersOfPasses();
        passNoDeeperThanLeft();
        changeAboveZero();
        leaveKeepsWear();
        breaksForSure();
        hundredthsAhead();
        coarse();
        behindTheLast();
        cutTowardsZero();
        bestOfSeveral();
        setAtLimit();
        setAtFine();
        setLeaves();
        countPieces();
        signs();
        quickWorth();
        slowest();
        meansCut();
        judgeBounds();
        judgeChances();
        judgeOrder();
        judgeNone();
        partedBounds();
        partedSureBreak();
        partedFine();
        partedFewest();
        partedLowest();
        Check.end();
    }

    private static int[] with(int[] good, int place, int number) {
        int[] all = good.clone();
        all[place] = number;
        return all;
    }

    private static long pass(EdgeAndSpeed x, int[] a) {
        return x.pass(a[0], a[1], a[2], a[3], a[4]);
    }

    /** Promise 6: each number at its least and greatest, and beside them; of a full bench and of the least one. */
    private static void passBounds() {
        int[][] full = {{0, 7}, {0, 5}, {1, 8}, {0, 3}, {0, 2}};
        int[][] least = {{0, 0}, {0, 0}, {1, 8}, {0, 0}, {0, 2}};
        passBounds(Check.laid(FULL_BENCH), full);
        passBounds(new EdgeAndSpeed(), least);
    }

    private static void passBounds(EdgeAndSpeed x, int[][] bounds) {
        int[] good = {0, 0, 1, 0, 0};
        for (int place = 0; place < 5; place++) {
            Check.holds("least " + place, pass(x, with(good, place, bounds[place][0])) >= 0);
            Check.holds("greatest " + place, pass(x, with(good, place, bounds[place][1])) >= 0);
            int[] bad = {bounds[place][0] - 1, bounds[place][1] + 1, Integer.MIN_VALUE, Integer.MAX_VALUE, bounds[place][1] + 256};
            for (int b : bad) {
                Check.due("pass number " + place + " is " + b, pass(x, with(good, place, b)), -1);
            }
        }
    }

    /** "(100 L) by Q, rounded up": without a rest, with the least one, with the greatest one. */
    private static void passRoundedUp() {
        int[][] due = {{1, 1, 100}, {1, 99, 2}, {1, 50, 2}, {1, 51, 2}, {1, 49, 3}, {99, 1, 9900}, {99, 99, 100}, {99, 98, 102},
            {10, 9, 112}, {10, 11, 91}, {33, 99, 34}, {98, 99, 99}, {97, 99, 98}};
        for (int[] d : due) {
            EdgeAndSpeed x = Check.laid("v" + d[1] + ",0;p" + d[0] + ",1,0,0;");
            Check.due(d[0] + " inches by " + d[1], x.pass(0, 0, 1, 0, 0), d[2]);
            Check.due("no depth is asked", x.pass(0, 0, 8, 0, 0), d[2]);
        }
    }

    /** "(L times W times d times H) by 10000, cut": 9999 is nothing, 10000 is 1, 19999 is 1. */
    private static void passCut() {
        int[][] due = {{99, 101, 1, 1, 0}, {1, 101, 1, 99, 0}, {25, 1, 1, 400, 1}, {1, 100, 1, 100, 1}, {1, 99, 1, 100, 0},
            {1, 199, 1, 100, 1}, {1, 200, 1, 100, 2}, {99, 0, 8, 400, 0}, {99, 999, 8, 400, 31648}, {1, 1, 1, 1, 0},
            {1, 999, 8, 1, 0}, {1, 999, 8, 2, 1}, {50, 25, 8, 1, 1}, {50, 25, 7, 1, 0}};
        for (int[] d : due) {
            EdgeAndSpeed x = Check.laid("v1," + d[1] + ";p" + d[0] + ",1,0,0;t" + d[3] + ",10;");
            Check.due("wears " + java.util.Arrays.toString(d), x.pass(0, 0, d[2], 0, 1), d[4]);
        }
    }

    /** Promise 7: a WEAR is 0 to 100. */
    private static void breaksBounds() {
        EdgeAndSpeed x = Check.laid("v1,1;p1,1,1,1;b0,1;b100,100;");
        int[][] due = {{0, 1}, {99, 1}, {100, 100}, {-1, -1}, {101, -1}, {256, -1}, {Integer.MIN_VALUE, -1}, {Integer.MAX_VALUE, -1}};
        for (int[] d : due) {
            Check.due("breaks " + d[0], x.breaks(d[0]), d[1]);
        }
    }

    /** Promise 8: S a speed of the bench, LIMIT 0 to 100, n 1 to 8; what is BAD leaves each of them. */
    private static void handBounds() {
        handBounds(Check.laid(FULL_BENCH), new int[][] {{0, 5}, {0, 100}, {1, 8}});
        handBounds(new EdgeAndSpeed(), new int[][] {{0, 0}, {0, 100}, {1, 8}});
    }

    private static void handBounds(EdgeAndSpeed x, int[][] bounds) {
        int[] first = {0, 100, 8};
        for (int what = 0; what < 3; what++) {
            int least = bounds[what][0];
            int most = bounds[what][1];
            Check.due("to the least", x.hand(what, least), first[what]);
            Check.due("to the greatest", x.hand(what, most), least);
            int[] bad = {least - 1, most + 1, Integer.MIN_VALUE, Integer.MAX_VALUE, most + 256};
            for (int b : bad) {
                Check.due("hand " + what + " to " + b, x.hand(what, b), -1);
            }
            Check.due("the greatest stays", x.hand(what, least), most);
            Check.due("below the least", x.hand(what, least - 1), -1);
            Check.due("the least stays", x.hand(what, most), least);
        }
        for (int what : new int[] {-1, 3, Integer.MIN_VALUE, Integer.MAX_VALUE}) {
            Check.due("hand " + what, x.hand(what, 1), -1);
        }
        Check.due("S stays", x.hand(0, 0), bounds[0][1]);
        Check.due("LIMIT stays", x.hand(1, 100), 100);
        Check.due("n stays", x.hand(2, 8), 8);
    }

    private static void bad(EdgeAndSpeed x, int[] s) {
        String at = java.util.Arrays.toString(s);
        Check.due("bad does " + at, x.does(s[0], s[1], s[2], s[3], s[4]), -1);
        Check.due("bad value " + at, x.value(s[0], s[1], s[2], s[3], s[4]), LEAST);
        Check.due("bad minutes " + at, x.mean(s[0], s[1], s[2], s[3], s[4], 0), -1);
        Check.due("bad spoilt " + at, x.mean(s[0], s[1], s[2], s[3], s[4], 1), -1);
        Check.due("bad in two ways " + at, x.mean(s[0], s[1], s[2], s[3], s[4], 2), -1);
    }

    private static void good(EdgeAndSpeed x, int[] s) {
        String at = java.util.Arrays.toString(s);
        Check.holds("does " + at, x.does(s[0], s[1], s[2], s[3], s[4]) >= 0);
        Check.holds("value " + at, x.value(s[0], s[1], s[2], s[3], s[4]) != LEAST);
        Check.holds("minutes " + at, x.mean(s[0], s[1], s[2], s[3], s[4], 0) >= 0);
        Check.holds("spoilt " + at, x.mean(s[0], s[1], s[2], s[3], s[4], 1) >= 0);
        Check.due("mean -1 " + at, x.mean(s[0], s[1], s[2], s[3], s[4], -1), -1);
        Check.due("mean 2 " + at, x.mean(s[0], s[1], s[2], s[3], s[4], 2), -1);
    }

    /** Promises 9 to 11: HANDS 0 to 5, steels, pieces, "LEFT (STEPS, 1 to D)" of the very piece, "WEAR (0 to 100)". */
    private static void stateBounds() {
        EdgeAndSpeed x = Check.laid(FULL_BENCH);
        for (int p = 0; p < 8; p++) {
            int[][] bounds = {{0, 5}, {0, 3}, {p, p}, {1, p + 1}, {0, 100}};
            int[] state = {1, 0, p, 1, 0};
            for (int place = 0; place < 5; place++) {
                if (place == 3 || p == 0 && place != 2) {
                    good(x, with(state, place, bounds[place][0]));
                    good(x, with(state, place, bounds[place][1]));
                    bad(x, with(state, place, bounds[place][0] - 1));
                    bad(x, with(state, place, bounds[place][1] + 1));
                }
            }
        }
        EdgeAndSpeed y = Check.laid(FULL_BENCH);
        int[] state = {0, 0, 0, 1, 0};
        bad(y, with(state, 2, -1));
        bad(y, with(state, 2, 8));
        for (int place = 0; place < 5; place++) {
            bad(y, with(state, place, Integer.MIN_VALUE));
            bad(y, with(state, place, Integer.MAX_VALUE));
            bad(y, with(state, place, 257));
        }
        EdgeAndSpeed one = new EdgeAndSpeed();
        good(one, state);
        bad(one, with(state, 1, 1));
        bad(one, with(state, 2, 1));
        bad(one, with(state, 3, 2));
    }

    /** "0 to 47: 8 SPEED and d less 1": the first pass and the last one. */
    private static void numbersOfPasses() {
        String six = "v10,0;v10,0;v10,0;v10,0;v10,0;v20,0;p10,8,100,99;";
        Check.due("47", Check.laid(six).does(0, 0, 0, 8, 0), 47);
        Check.due("40 for the last step", Check.laid(six).does(0, 0, 0, 1, 0), 40);
        Check.due("0 for one step", Check.laid("v10,0;v10,0;p10,8,100,99;").does(0, 0, 0, 1, 0), 0);
        Check.due("7 for eight", Check.laid("v10,0;v10,0;p10,8,100,99;").does(0, 0, 0, 8, 0), 7);
        EdgeAndSpeed set = Check.laid(six);
        for (int i = 0; i < 6; i++) {
            set.hand(0, i);
            for (int left = 1; left <= 8; left++) {
                Check.due("set " + i + " with " + left, set.does(1, 0, 0, left, 0), 8 * i + left - 1);
            }
        }
    }

    /** "PASS, if d is no more than LEFT, as deep as may be": K and O bound it, LEFT bounds it. */
    private static void passNoDeeperThanLeft() {
        for (int k = 1; k <= 8; k++) {
            EdgeAndSpeed x = Check.laid("v10,0;p10,8,100,99;k" + k + ",999;");
            EdgeAndSpeed y = Check.laid("v10,0;p10,8,100,99;k8," + (10 * k + 9) + ";");
            for (int left = 1; left <= 8; left++) {
                int d = Math.min(k, left);
                Check.due("set, K " + k, x.does(1, 0, 0, left, 0), d - 1);
                Check.due("set, O " + (10 * k + 9), y.does(1, 0, 0, left, 0), d - 1);
                int passes = (left + k - 1) / k;
                Check.due("best, K " + k, x.value(0, 0, 0, left, 0), 594000 - 6000 * passes);
                Check.due("best, O " + (10 * k + 9), y.value(0, 0, 0, left, 0), 594000 - 6000 * passes);
            }
        }
    }

    /** "48 CHANGE, if WEAR is above 0": free, and yet not at 0. */
    private static void changeAboveZero() {
        EdgeAndSpeed x = Check.laid("v10,0;p10,1,100,9;k8,9;c0,0;");
        int[] hands = {0, 4};
        for (int hand : hands) {
            Check.due("at 0", x.does(hand, 0, 0, 1, 0), 49);
            Check.due("at 1", x.does(hand, 0, 0, 1, 1), 48);
            Check.due("at 100", x.does(hand, 0, 0, 1, 100), 48);
        }
        EdgeAndSpeed sure = Check.laid("v10,999;p99,1,100,9;c0,0;b0,100;");
        Check.due("each pass breaks: leave at 0", sure.does(0, 0, 0, 1, 0), 49);
        Check.due("change at 1", sure.does(0, 0, 0, 1, 1), 48);
        Check.due("and leave", sure.value(0, 0, 0, 1, 1), 0);
    }

    /** "49 LEAVE (the next one, LEFT its D, WEAR as it is)": the edge is not changed, the steps are the next one's. */
    private static void leaveKeepsWear() {
        EdgeAndSpeed x = Check.laid("v10,100;p10,1,100,0;p10,3,50,90;c9,99;");
        // piece 0 is worth less than its pass; piece 1 in one pass wears 30
        Check.due("left", x.does(0, 0, 0, 1, 50), 49);
        Check.due("piece 1 at 50 is fine", x.value(0, 0, 0, 1, 50), 540000 - 6000);
        Check.due("at 51 it is not: left, too", x.value(0, 0, 0, 1, 51), 0);
        Check.due("both are spoilt", x.mean(0, 0, 0, 1, 51, 1), 2000000);
        EdgeAndSpeed all = Check.laid("v10,0;p10,1,100,9;p10,8,100,9;k1,999;");
        all.hand(1, 100);
        Check.due("eight passes behind one", all.mean(1, 0, 0, 1, 0, 0), 900);
    }

    /** "breaks for sure, if WEAR and what it wears are above 100 together". */
    private static void breaksForSure() {
        int[][] due = {{0, 100, 0}, {0, 101, 1}, {1, 99, 0}, {1, 100, 1}, {50, 50, 0}, {50, 51, 1}, {99, 1, 0}, {99, 2, 1}, {100, 0, 0},
            {100, 1, 1}};
        for (int[] d : due) {
            sure(d[0], d[1], d[2] == 1);
        }
    }

    /** One pass that wears as much as its W tells: 25 inches, one step, 400 hundredths as hard. */
    private static void sure(int wear, int wears, boolean breaks) {
        EdgeAndSpeed x = Check.laid("v25," + wears + ";p25,1,100,10;t400,10;");
        Check.due("wears", x.pass(0, 0, 1, 0, 1), wears);
        String at = wear + " and " + wears;
        Check.due(at + " value", x.value(1, 0, 0, 1, wear), breaks ? -84000 : 54000);
        Check.due(at + " minutes", x.mean(1, 0, 0, 1, wear, 0), breaks ? 500 : 100);
        Check.due(at + " spoilt", x.mean(1, 0, 0, 1, wear, 1), breaks ? 1000000 : 0);
        EdgeAndSpeed sure = Check.laid("v25," + wears + ";p25,1,100,10;t400,10;b0,0;");
        Check.due(at + " though its hundredths are 0", sure.value(1, 0, 0, 1, wear), breaks ? -84000 : 54000);
    }

    /** "else by its hundredths (of WEAR ahead of it)". */
    private static void hundredthsAhead() {
        EdgeAndSpeed x = Check.laid("v25,50;p25,1,100,10;p25,1,100,10;t400,10;b50,100;");
        Check.due("49 and 50", x.value(1, 0, 1, 1, 49), 54000);
        Check.due("50 and 50", x.value(1, 0, 1, 1, 50), -84000);
        Check.due("first 0, then 50", x.value(1, 0, 0, 1, 0), 54000 - 84000);
        // 1 hundredth: 100 by (99 times 60000 and 1 times -78000); 99: 100 by (60000 and 99 times -78000)
        EdgeAndSpeed one = Check.laid("v25,0;p25,1,100,10;b0,1;b1,99;b2,100;b3,0;");
        long[] due = {59400 - 780 - 6000, 600 - 77220 - 6000, -84000, 54000};
        for (int w = 0; w < 4; w++) {
            Check.due("at " + w, one.value(1, 0, 0, 1, w), due[w]);
        }
    }

    /** "a last PASS (LEFT 0 then) with WEAR ahead of it above FINE: the PIECE is SPOILT": FINE 0, 1, 99, 100. */
    private static void coarse() {
        for (int fine : new int[] {0, 1, 50, 99, 100}) {
            EdgeAndSpeed x = Check.laid("v10,0;p10,2,100,1;p10,2," + fine + ",10;k1,999;");
            for (int wear = Math.max(0, fine - 1); wear <= Math.min(100, fine + 1); wear++) {
                // COUNT with n 8 never changes
                Check.due("fine " + fine + " at " + wear, x.value(2, 0, 1, 1, wear), wear > fine ? -6000 : 54000);
                Check.due("spoilt", x.mean(2, 0, 1, 1, wear, 1), wear > fine ? 1000000 : 0);
                Check.due("with a pass ahead of it", x.value(2, 0, 1, 2, wear), wear > fine ? -12000 : 48000);
            }
        }
        EdgeAndSpeed worn = Check.laid("v10,100;p10,2,10,10;k1,999;");
        Check.due("the pass itself may wear above fine", worn.value(2, 0, 0, 1, 10), 54000);
        Check.due("the last but one is not asked", worn.mean(2, 0, 0, 2, 11, 1), 1000000);
        Check.due("0 and 10 is as fine as told", worn.mean(2, 0, 0, 2, 0, 1), 0);
        Check.due("1 and 10 is not", worn.mean(2, 0, 0, 2, 1, 1), 1000000);
    }

    /** "Behind the last PIECE all is over": VALUE, MINUTES are 0 there, of the eighth piece as of the first. */
    private static void behindTheLast() {
        EdgeAndSpeed x = Check.laid("v10,0;" + "p10,1,100,0;".repeat(8) + "h0;c0,99;");
        Check.due("left", x.value(0, 0, 7, 1, 0), 0);
        Check.due("cut", x.value(1, 0, 7, 1, 0), 0);
        Check.due("one pass", x.mean(1, 0, 7, 1, 0, 0), 100);
        Check.due("eight passes", x.mean(1, 0, 0, 1, 0, 0), 800);
        EdgeAndSpeed broken = Check.laid("v10,0;p10,1,100,10;b0,100;");
        Check.due("a change, then all is over", broken.value(1, 0, 0, 1, 0), -84000);
    }

    /** "by 100, cut (towards 0)": above 0 and below 0. */
    private static void cutTowardsZero() {
        EdgeAndSpeed below = Check.laid("v99,0;p1,1,100,0;p10,1,100,0;h1;b0,1;c0,0;");
        // second piece: -11; first: -1100 by 100, less 2
        Check.due("no rest", below.value(1, 0, 0, 1, 0), -11 - 2);
        EdgeAndSpeed rest = Check.laid("v99,0;p1,1,100,0;p10,1,100,0;h1;b0,50;c1,0;");
        // second: -(50 times 100) by 100 less 11: -61; first: (50 times -61 and 50 times (-61 less 100)) by 100 is -111, less 2
        Check.due("-61", rest.value(1, 0, 1, 1, 0), -61);
        Check.due("-111, less 2", rest.value(1, 0, 0, 1, 0), -113);
        EdgeAndSpeed third = Check.laid("v99,0;p1,1,100,0;p10,1,100,0;h1;b0,33;c1,0;");
        // second: -33 less 11: -44; first: (67 times -44 and 33 times -144): -77, less 2
        Check.due("-44", third.value(1, 0, 1, 1, 0), -44);
        Check.due("-77, less 2", third.value(1, 0, 0, 1, 0), -79);
        EdgeAndSpeed odd = Check.laid("v99,0;p1,1,100,0;p1,1,100,0;h999;b0,1;c1,99;");
        // change: 99900 and 594000; second: -6939 less 1998; first: (99 times -8937 and -(8937 and 693900)) by 100 is -15876 exactly
        Check.due("-8937", odd.value(1, 0, 1, 1, 0), -8937);
        Check.due("-15876, less 1998", odd.value(1, 0, 0, 1, 0), -17874);
        EdgeAndSpeed up = Check.laid("v99,0;p1,1,100,1;p1,1,100,1;h7;b0,99;c0,0;");
        // second: 60 less 14: 46; first: (1 times 6046 and 99 times 46) by 100 is 106, less 14
        Check.due("46", up.value(1, 0, 1, 1, 0), 46);
        Check.due("106", up.value(1, 0, 0, 1, 0), 92);
        EdgeAndSpeed cut = Check.laid("v99,0;p1,1,100,0;p1,1,100,1;h1;b0,37;b1,50;c0,0;");
        // at wear 0: 37 hundredths: second 3780 less 2; first: all 3778, less 2
        Check.due("3776", cut.value(1, 0, 0, 1, 0), 3776);
        Check.due("the change's minutes cut", Check.laid("v99,0;p1,1,100,0;p1,1,100,0;h1;b0,33;b1,50;c1,0;").mean(1, 0, 0, 1, 1, 0),
                (50 * 52 + 50 * 135) / 100 + 2);
        Check.due("-94.82 is -94, less 2", Check.laid("v99,99;p1,1,100,0;p1,1,100,0;h1;b0,33;b1,51;c1,0;").value(1, 0, 0, 1, 1),
                -(49 * 53 + 51 * 135) / 100 - 2);
    }

    /** "the greatest VALUE, of several the lowest number": PASS ahead of CHANGE ahead of LEAVE. */
    private static void bestOfSeveral() {
        EdgeAndSpeed free = Check.laid("v10,0;v10,0;p10,8,100,0;h0;c0,0;");
        for (int left = 1; left <= 8; left++) {
            Check.due("all are worth 0", free.does(0, 0, 0, left, 50), 0);
        }
        EdgeAndSpeed change = Check.laid("v10,0;p10,1,100,0;h1;c0,0;");
        Check.due("change and leave are worth 0", change.does(0, 0, 0, 1, 50), 48);
        EdgeAndSpeed dear = Check.laid("v10,0;p10,1,100,0;h1;c1,0;");
        Check.due("leave alone is worth 0", dear.does(0, 0, 0, 1, 50), 49);
        EdgeAndSpeed by1 = Check.laid("v10,0;v10,0;p10,1,100,1;h60;");
        Check.due("a pass worth 0 ahead of leaving", by1.does(0, 0, 0, 1, 0), 0);
        Check.due("a pass worth less than 0", Check.laid("v10,0;p10,1,100,1;h61;").does(0, 0, 0, 1, 0), 49);
        Check.due("a pass worth more", Check.laid("v10,0;p10,1,100,1;h59;").does(0, 0, 0, 1, 0), 0);
    }

    /** "ahead of a PASS it CHANGES, if WEAR is above its LIMIT (0 to 100)". */
    private static void setAtLimit() {
        EdgeAndSpeed x = Check.laid("v10,0;p10,2,100,10;k1,999;");
        for (int limit : new int[] {0, 1, 50, 99, 100}) {
            x.hand(1, limit);
            for (int wear : new int[] {0, 1, 2, 49, 50, 51, 98, 99, 100}) {
                int due = wear > limit ? 48 : 0;
                Check.due("set, limit " + limit + " at " + wear, x.does(1, 0, 0, 2, wear), due);
                Check.due("slow, limit " + limit + " at " + wear, x.does(5, 0, 0, 2, wear), due);
                Check.due("set, last pass, limit " + limit + " at " + wear, x.does(1, 0, 0, 1, wear), due);
                Check.due("count asks no limit", x.does(2, 0, 0, 2, wear), 0);
            }
        }
    }

    /** "or the PASS is the last and WEAR above FINE". */
    private static void setAtFine() {
        for (int fine : new int[] {0, 1, 50, 99, 100}) {
            EdgeAndSpeed x = Check.laid("v10,0;p10,3," + fine + ",10;k2,999;");
            for (int wear : new int[] {0, 1, 2, 49, 50, 51, 98, 99, 100}) {
                Check.due("not the last, fine " + fine, x.does(1, 0, 0, 3, wear), 1);
                Check.due("the last of 2, fine " + fine + " at " + wear, x.does(1, 0, 0, 2, wear), wear > fine ? 48 : 1);
                Check.due("the last of 1, fine " + fine + " at " + wear, x.does(1, 0, 0, 1, wear), wear > fine ? 48 : 0);
                Check.due("slow, fine " + fine + " at " + wear, x.does(5, 0, 0, 1, wear), wear > fine ? 48 : 0);
                Check.due("count asks no fine", x.does(2, 0, 0, 1, wear), 0);
            }
        }
    }

    /** "it LEAVES, if no PASS of it may be": Q above O; Q as O is one step deep. */
    private static void setLeaves() {
        EdgeAndSpeed x = Check.laid("v50,0;v51,0;p10,8,0,10;k8,50;");
        int[] hands = {1, 2, 3};
        for (int hand : hands) {
            x.hand(0, 0);
            Check.due("Q as O", x.does(hand, 0, 0, 8, 0), 0);
            x.hand(0, 1);
            Check.due("Q above O", x.does(hand, 0, 0, 8, 0), 49);
            Check.due("Q above O, worn", x.does(hand, 0, 0, 8, 100), 49);
        }
        Check.due("slow has its own", x.does(5, 0, 0, 8, 0), 0);
        Check.due("best has the other", x.does(0, 0, 0, 1, 0), 0);
    }

    /** "CHANGES just with LEFT D of PIECES n, 2 n, .. (n 1 to 8), if WEAR is above 0". */
    private static void countPieces() {
        EdgeAndSpeed x = Check.laid("v10,0;" + "p10,2,0,10;".repeat(8) + "k1,999;");
        int[][] counted = {{1, 2, 3, 4, 5, 6, 7}, {2, 4, 6}, {3, 6}, {4}, {5}, {6}, {7}, {}};
        for (int n = 1; n <= 8; n++) {
            x.hand(2, n);
            int[] due = new int[8];
            for (int p : counted[n - 1]) {
                due[p] = 48;
            }
            for (int p = 0; p < 8; p++) {
                Check.due("n " + n + ", piece " + p + " at 1", x.does(2, 0, p, 2, 1), due[p]);
                Check.due("n " + n + ", piece " + p + " at 0", x.does(2, 0, p, 2, 0), 0);
                Check.due("n " + n + ", piece " + p + " begun", x.does(2, 0, p, 1, 1), 0);
            }
        }
    }

    /** "by WEAR less its last figure (0, 10, .., 100) in place of WEAR". */
    private static void signs() {
        EdgeAndSpeed x = Check.laid("v10,0;p10,2,100,10;k1,999;");
        for (int limit = 0; limit <= 100; limit += 5) {
            x.hand(1, limit);
            for (int wear : new int[] {0, 9, 10, 19, 90, 99, 100}) {
                Check.due("limit " + limit + " at " + wear, x.does(3, 0, 0, 2, wear), wear / 10 * 10 > limit ? 48 : 0);
            }
        }
        for (int fine : new int[] {0, 9, 10, 89, 90, 99, 100}) {
            EdgeAndSpeed y = Check.laid("v10,0;p10,1," + fine + ",10;");
            for (int wear : new int[] {0, 9, 10, 19, 90, 99, 100}) {
                Check.due("fine " + fine + " at " + wear, y.does(3, 0, 0, 1, wear), wear / 10 * 10 > fine ? 48 : 0);
            }
        }
    }

    /** "a PIECE done is worth 100000, PASSES and CHANGES cost their hundredths of minutes, pence nothing". */
    private static void quickWorth() {
        // 100 less 91 hundredths of 100000, less 91 hundredths of 9800, less the pass: 9000 - 8918 - 82 is nothing
        Check.due("worth 0", Check.laid("v50,0;p41,1,100,0;c98,0;b0,91;").does(4, 0, 0, 1, 0), 0);
        Check.due("worth 2 less", Check.laid("v50,0;p42,1,100,0;c98,0;b0,91;").does(4, 0, 0, 1, 0), 49);
        Check.due("worth 2 more", Check.laid("v50,0;p40,1,100,0;c98,0;b0,91;").does(4, 0, 0, 1, 0), 0);
        // a change of 0 minutes costs nothing, though 99 pence: 0 is as good as another, the lowest; at 1 it breaks
        Check.due("pence are nothing", Check.laid("v50,0;p40,1,100,0;c0,99;b0,0;b1,1;h999;").does(4, 0, 0, 1, 1), 48);
        Check.due("a change of a minute", Check.laid("v50,0;p40,1,100,0;c10,99;b0,0;b1,1;h999;").does(4, 0, 0, 1, 1), 48);
        // 1 hundredth of 100000 and 1 of the change's 9900, less 9900: left as it is
        Check.due("a dear change", Check.laid("v50,0;p40,1,100,0;c99,0;b0,0;b1,1;h0;").does(4, 0, 0, 1, 1), 0);
        Check.due("no WORTH is asked", Check.laid("v10,0;p10,1,100,0;p10,1,100,999;").does(4, 0, 0, 1, 0), 0);
    }

    /** "the SPEED of the least W, the lowest": W 0, W 999, all as one. */
    private static void slowest() {
        Check.due("0 and 0", Check.laid("v10,0;v10,0;p10,1,100,1;").does(5, 0, 0, 1, 0), 0);
        Check.due("999 and 998", Check.laid("v10,999;v10,998;p1,1,100,1;").does(5, 0, 0, 1, 0), 8);
        Check.due("of six the last", Check.laid("v1,9;v1,8;v1,7;v1,6;v1,5;v1,4;p1,1,100,1;").does(5, 0, 0, 1, 0), 40);
        Check.due("of six the second", Check.laid("v1,9;v1,4;v1,7;v1,6;v1,5;v1,4;p1,1,100,1;").does(5, 0, 0, 1, 0), 8);
    }

    /** "both likewise cut at each PASS". */
    private static void meansCut() {
        // a change is 100: 33 hundredths are 33; the pass 2: 35; then (67 times 35 and 33 times 135) by 100 is 68
        EdgeAndSpeed x = Check.laid("v99,0;p1,1,100,0;p1,1,100,0;p1,1,100,0;h1;b0,33;c1,0;");
        Check.due("one", x.mean(1, 0, 2, 1, 0, 0), 35);
        Check.due("two", x.mean(1, 0, 1, 1, 0, 0), 70);
        Check.due("three", x.mean(1, 0, 0, 1, 0, 0), 105);
        // 7 by 50 hundredths: second pass at 1: 3.5 hundredths of nothing; spoilt 1000000 by 1 of 100, then 99 and 1 of it
        EdgeAndSpeed y = Check.laid("v10,10;p10,1,100,0;p10,1,100,0;p10,1,100,0;b0,1;b1,7;b2,13;");
        Check.due("13 hundredths", y.mean(1, 0, 2, 1, 2, 1), 130000);
        Check.due("7, then 13 or 1", y.mean(1, 0, 1, 1, 1, 1), (93 * 130000 + 7 * 1010000) / 100);
        Check.due("1, then that or 1 and 7", y.mean(1, 0, 0, 1, 0, 1), (99 * 191600L + 1000000 + second(y)) / 100);
    }

    /** Spoilt from piece 1 with a new edge on: 1 hundredth, then 7 or 1. */
    private static long second(EdgeAndSpeed y) {
        long due = (99 * 70000L + 1010000) / 100;
        Check.due("1, then 7 or 1", y.mean(1, 0, 1, 1, 0, 1), due);
        return due;
    }

    /** Promise 12: HANDS and steels at their bounds. */
    private static void judgeBounds() {
        EdgeAndSpeed x = Check.laid(FULL_BENCH);
        int[][] good = {{0, 0}, {5, 0}, {0, 3}, {5, 3}};
        for (int[] g : good) {
            Check.holds("judge " + g[0] + " " + g[1], x.judge(g[0], g[1]) != -1);
        }
        int[][] bad = {{-1, 0}, {6, 0}, {0, -1}, {0, 4}, {6, 4}, {-1, -1}, {Integer.MIN_VALUE, 0}, {Integer.MAX_VALUE, 0},
            {0, Integer.MIN_VALUE}, {0, Integer.MAX_VALUE}};
        for (int[] b : bad) {
            Check.due("judge " + b[0] + " " + b[1], x.judge(b[0], b[1]), -1);
        }
        for (int h = 0; h < 4; h++) {
            Check.due("best is none", x.judge(0, h), -4);
        }
    }

    /** "to which it may come (by a chance above 0)": 1 hundredth, 99 hundredths; not 0, not 100. */
    private static void judgeChances() {
        for (int b : new int[] {0, 1, 99, 100}) {
            EdgeAndSpeed x = Check.laid("v10,0;p10,1,100,999;p10,1,100,0;c0,0;b0," + b + ";");
            // piece 1 is worth nothing: to cut it is wrong; so is the first pass, if it breaks for sure
            Check.due("by " + b + " broken", x.judge(1, 0), b == 100 ? 0 : 1000);
        }
        for (int b : new int[] {0, 1, 99, 100}) {
            EdgeAndSpeed x = Check.laid("v10,100;p10,1,100,999;p10,1,9,999;p10,1,100,0;c0,0;h0;b0," + b + ";b1,0;");
            // COUNT never changes: in piece 1 at 10 it spoils the piece; it comes there unbroken alone
            Check.due("by " + (100 - b) + " unbroken", x.judge(2, 0), b == 100 ? -4 : 1010);
        }
        for (int b : new int[] {0, 1, 99, 100}) {
            EdgeAndSpeed x = Check.laid("v10,100;p10,2,9,999;c0,0;h0;k1,999;b0," + b + ";b1,0;");
            // the same with the second step of one piece
            Check.due("by " + (100 - b) + " begun", x.judge(2, 0), b == 100 ? -4 : 101 + 10);
        }
        for (int b : new int[] {1, 99, 100}) {
            EdgeAndSpeed x = Check.laid("v10,100;p10,2,50,999;c0,0;h0;k1,999;b1,0;b0," + b + ";");
            x.hand(1, 5);
            // with one step left it changes at 10 and may break then; by 100 hundredths it never comes so far
            Check.due("by " + (100 - b) + " to its second step", x.judge(1, 0), b == 100 ? -4 : 101 + 10);
            Check.holds("there it errs", x.value(1, 0, 0, 1, 10) < x.value(0, 0, 0, 1, 10));
        }
        for (int b : new int[] {0, 1, 50}) {
            EdgeAndSpeed x = Check.laid("v10,250;v15,600;p10,2,100,90;p10,1,100,90;k8,29;b1,0;b0," + b + ";");
            // in piece 1 the quick speed is the better one with a new edge alone; a broken one alone leads there
            Check.due("by " + b + " a new edge", x.judge(1, 0), b == 0 ? -4 : 1000);
        }
    }

    /** "the first STATE (by PIECE, more LEFT first, less WEAR first)". */
    private static void judgeOrder() {
        // each pass of SET 1 is slower than speed 0's: it errs everywhere, the first is where it begins
        EdgeAndSpeed all = Check.laid("v20,0;v10,0;p10,3,100,90;p10,2,100,90;k1,999;");
        all.hand(0, 1);
        Check.due("the begin", all.judge(1, 0), 0);
        // worth nothing: to cut is wrong; only piece 2 is
        EdgeAndSpeed third = Check.laid("v10,0;p10,1,100,90;p10,1,100,90;p10,1,100,0;");
        Check.due("piece 2", third.judge(1, 0), 2000);
        EdgeAndSpeed eighth = Check.laid("v10,100;" + "p10,1,100,90;".repeat(7) + "p10,8,100,0;");
        Check.due("piece 7 at 70", eighth.judge(1, 0), 7070);
        // COUNT errs with 1 left of 8 alone: 7 passes wear 70, FINE is 69
        EdgeAndSpeed last = Check.laid("v10,100;p10,8,69,90;k1,999;");
        Check.due("1 left", last.judge(2, 0), 101 * 7 + 70);
        EdgeAndSpeed fine = Check.laid("v10,100;p10,8,70,90;k1,999;");
        Check.due("fine as told", fine.judge(2, 0), -4);
        // a break by 50 hundredths: piece 1 at 10 and at 0, both wrong: less WEAR first
        EdgeAndSpeed both = Check.laid("v10,100;p10,1,100,999;p10,1,100,0;b0,50;c0,0;");
        Check.due("less wear first", both.judge(1, 0), 1000);
        // more LEFT first: at 2 left with 10 (changed too early by a limit), ahead of 1 left with 0
        EdgeAndSpeed more = Check.laid("v10,100;p10,3,100,90;k1,999;");
        more.hand(1, 9);
        Check.due("more left first", more.judge(1, 0), 101 + 10);
        EdgeAndSpeed hundred = Check.laid("v10,999;p10,1,100,90;p1,1,100,0;c1,0;");
        hundred.hand(1, 100);
        Check.due("wear 99", hundred.judge(1, 0), 1099);
    }

    /** "none": NONE, of a hand that does as well by another pass. */
    private static void judgeNone() {
        EdgeAndSpeed x = Check.laid("v10,0;v10,0;v10,0;p10,1,100,90;");
        for (int s = 0; s < 3; s++) {
            x.hand(0, s);
            Check.due("as good", x.judge(1, 0), -4);
        }
        EdgeAndSpeed never = Check.laid("v10,0;p10,1,0,90;");
        // no pass wears: SET never comes to a worn edge, where it would change
        Check.due("never worn", never.judge(1, 0), -4);
        Check.due("nor by count", never.judge(2, 0), -4);
        EdgeAndSpeed none = Check.laid("v10,0;p10,1,0,90;k8,9;");
        Check.due("nothing may be", none.judge(1, 0), -4);
    }

    private static void parted(String what, EdgeAndSpeed x, int[] s, long[] due) {
        for (int i = 0; i < 3; i++) {
            Check.due(what + " parted " + i, x.parted(s[0], s[1], s[2], i), due[i]);
        }
    }

    /** Promise 13: pieces, steels, WEAR 0 to 100, what 0 to 2. */
    private static void partedBounds() {
        EdgeAndSpeed x = Check.laid(FULL_BENCH);
        int[][] bounds = {{0, 7}, {0, 3}, {0, 100}, {0, 2}};
        int[] good = {0, 0, 0, 0};
        for (int place = 0; place < 4; place++) {
            for (int b : new int[] {bounds[place][0], bounds[place][1]}) {
                int[] s = with(good, place, b);
                Check.holds("parted " + place + " " + b, x.parted(s[0], s[1], s[2], s[3]) != -1);
            }
            for (int b : new int[] {-1, bounds[place][1] + 1, Integer.MIN_VALUE, Integer.MAX_VALUE, bounds[place][1] + 256}) {
                int[] s = with(good, place, b);
                Check.due("parted " + place + " " + b, x.parted(s[0], s[1], s[2], s[3]), -1);
                int[] none = with(s, place == 2 ? 0 : 2, place == 2 ? b : 100);
                Check.due("BAD ahead of NONE", x.parted(none[0], none[1], none[2], none[3]), -1);
            }
        }
    }

    /** "in which no edge breaks for sure": 100 together at the end does, 101 does not; no break by hundredths. */
    private static void partedSureBreak() {
        for (int w = 0; w <= 100; w += 20) {
            EdgeAndSpeed x = Check.laid("v25," + (100 - w) + ";p25,1,100,10;t400,10;b0,100;");
            parted("100 together", x, new int[] {0, 0, w}, new long[] {6000, 1, 0});
            if (w < 100) {
                parted("101 together", x, new int[] {0, 0, w + 1}, new long[] {-4, -4, -4});
            }
        }
        EdgeAndSpeed y = Check.laid("v25,50;p25,2,100,10;t400,10;k1,999;");
        parted("50 and 50", y, new int[] {0, 0, 0}, new long[] {12000, 2, 0});
        parted("1, 50 and 50", y, new int[] {0, 0, 1}, new long[] {-4, -4, -4});
        EdgeAndSpeed one = Check.laid("v25,1;p25,1,100,10;t400,10;");
        parted("99 and 1", one, new int[] {0, 0, 99}, new long[] {6000, 1, 0});
        parted("100 and 1", one, new int[] {0, 0, 100}, new long[] {-4, -4, -4});
        EdgeAndSpeed big = Check.laid("v99,999;p99,1,100,10;t400,10;");
        parted("more than ever", big, new int[] {0, 0, 0}, new long[] {-4, -4, -4});
    }

    /** "and the PIECE is done": WEAR ahead of the last pass is not above FINE. */
    private static void partedFine() {
        for (int fine : new int[] {0, 1, 50, 99, 100}) {
            EdgeAndSpeed x = Check.laid("v25,0;p25,1," + fine + ",10;");
            parted("as fine " + fine, x, new int[] {0, 0, fine}, new long[] {6000, 1, 0});
            if (fine < 100) {
                parted("above " + fine, x, new int[] {0, 0, fine + 1}, new long[] {-4, -4, -4});
            }
        }
        EdgeAndSpeed two = Check.laid("v25,10;p25,2,10,10;t400,10;k1,999;");
        parted("0, then 10", two, new int[] {0, 0, 0}, new long[] {12000, 2, 0});
        parted("1, then 11", two, new int[] {0, 0, 1}, new long[] {-4, -4, -4});
        EdgeAndSpeed none = Check.laid("v25,10;p25,2,10,10;k8,24;");
        parted("none may be", none, new int[] {0, 0, 0}, new long[] {-4, -4, -4});
    }

    /** "the least COST; the fewest PASSES of such rows": a dearer row of fewer passes is none of them. */
    private static void partedFewest() {
        EdgeAndSpeed x = Check.laid("v40,0;v10,0;p40,4,100,10;k8,80;");
        parted("two quick ones ahead of a slow one", x, new int[] {0, 0, 0}, new long[] {12000, 2, 1});
        EdgeAndSpeed y = Check.laid("v10,0;v40,0;p40,4,100,10;k8,80;");
        parted("the other way round", y, new int[] {0, 0, 0}, new long[] {12000, 2, 9});
        EdgeAndSpeed even = Check.laid("v20,0;v10,0;p20,2,100,10;k8,20;");
        // two passes of 100 or one of 200
        parted("as dear: fewer", even, new int[] {0, 0, 0}, new long[] {12000, 1, 9});
        EdgeAndSpeed odd = Check.laid("v10,0;v20,0;p20,2,100,10;k8,20;");
        parted("as dear: fewer, the other way round", odd, new int[] {0, 0, 0}, new long[] {12000, 1, 1});
        EdgeAndSpeed eight = Check.laid("v10,0;p10,8,100,10;k1,999;");
        parted("eight passes", eight, new int[] {0, 0, 0}, new long[] {48000, 8, 0});
        EdgeAndSpeed free = Check.laid("v40,0;v10,0;p40,4,100,10;k8,80;h0;");
        parted("all cost nothing: one pass", free, new int[] {0, 0, 0}, new long[] {0, 1, 11});
    }

    /** "of these rows the lowest first PASS": one step, the last one of 47. */
    private static void partedLowest() {
        EdgeAndSpeed one = Check.laid("v10,0;v10,0;p10,1,100,10;");
        parted("of even ones", one, new int[] {0, 0, 0}, new long[] {6000, 1, 0});
        EdgeAndSpeed three = Check.laid("v10,0;p10,3,100,10;k2,999;");
        parted("1 and 2 ahead of 2 and 1", three, new int[] {0, 0, 0}, new long[] {12000, 2, 0});
        EdgeAndSpeed worn = Check.laid("v25,20;p25,3,20,10;t400,10;k2,999;");
        // 1, then 2: 20 ahead of the last; 2, then 1: 40
        parted("1 and 2 alone", worn, new int[] {0, 0, 0}, new long[] {12000, 2, 0});
        EdgeAndSpeed last = Check.laid("v25,90;v10,0;p25,3,50,10;t400,10;k2,24;");
        parted("1 and 2 of the other speed", last, new int[] {0, 0, 0}, new long[] {2 * 15000, 2, 8});
        EdgeAndSpeed six = Check.laid("v10,0;v10,0;v10,0;v10,0;v10,0;v20,0;p10,8,100,10;");
        parted("47", six, new int[] {0, 0, 0}, new long[] {3000, 1, 47});
    }
}
