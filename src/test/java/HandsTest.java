/** Promises 8 to 13: hand, does, value, mean, judge, parted. Each number is reckoned by hand. */
final class HandsTest {
    private static final long LEAST = Long.MIN_VALUE;
    /** A pass costs 6000 or 3000 and wears 10 or 40 a step, a change costs 30000. */
    private static final String TWO_PIECES = "v10,100;v20,400;p10,2,50,10;p10,1,20,30;c2,3;";

    private HandsTest() {
    }

    public static void main(String[] args) {
        hand();
        best();
        bestLowest();
        set();
        setLimits();
        count();
        countWithoutPass();
        signs();
        quick();
        slow();
        chances();
        sureBreak();
        fine();
        spoiltMean();
        steels();
        badStates();
        judge();
        judgeLast();
        judgeReach();
        parted();
        partedRows();
        partedBad();
        Check.end();
    }

    private static void does(String what, EdgeAndSpeed x, int[] s, int due) {
        Check.due(what + " does", x.does(s[0], s[1], s[2], s[3], s[4]), due);
    }

    private static void value(String what, EdgeAndSpeed x, int[] s, long due) {
        Check.due(what + " value", x.value(s[0], s[1], s[2], s[3], s[4]), due);
    }

    private static void means(String what, EdgeAndSpeed x, int[] s, long minutes, long spoilt) {
        Check.due(what + " minutes", x.mean(s[0], s[1], s[2], s[3], s[4], 0), minutes);
        Check.due(what + " spoilt", x.mean(s[0], s[1], s[2], s[3], s[4], 1), spoilt);
    }

    private static int[] at(int hand, int piece, int left, int wear) {
        return new int[] {hand, 0, piece, left, wear};
    }

    /** Promise 8. */
    private static void hand() {
        EdgeAndSpeed x = Check.laid("v10,10;v20,20;v30,30;p10,1,50,10;");
        Check.due("S 2", x.hand(0, 2), 0);
        Check.due("S 3", x.hand(0, 3), -1);
        Check.due("S -1", x.hand(0, -1), -1);
        Check.due("S 0", x.hand(0, 0), 2);
        Check.due("LIMIT 0", x.hand(1, 0), 100);
        Check.due("LIMIT -1", x.hand(1, -1), -1);
        Check.due("LIMIT 101", x.hand(1, 101), -1);
        Check.due("LIMIT 100", x.hand(1, 100), 0);
        Check.due("n 1", x.hand(2, 1), 8);
        Check.due("n 0", x.hand(2, 0), -1);
        Check.due("n 9", x.hand(2, 9), -1);
        Check.due("n 8", x.hand(2, 8), 1);
        Check.due("n as it was", x.hand(2, 5), 8);
        Check.due("what 3", x.hand(3, 1), -1);
        Check.due("what -1", x.hand(-1, 1), -1);
        Check.due("what least", x.hand(Integer.MIN_VALUE, 1), -1);
        Check.due("S as it was", x.hand(0, 1), 0);
        Check.due("LIMIT as it was", x.hand(1, 1), 100);
    }

    /** Promises 9, 10, 11: the greatest value from each state. */
    private static void best() {
        EdgeAndSpeed x = Check.laid(TWO_PIECES);
        does("last piece, new edge", x, at(0, 1, 1, 0), 8);
        value("last piece, new edge", x, at(0, 1, 1, 0), 177000);
        does("last piece, wear as fine", x, at(0, 1, 1, 20), 8);
        does("last piece, above fine", x, at(0, 1, 1, 21), 48);
        value("last piece, above fine", x, at(0, 1, 1, 21), 147000);
        does("first", x, at(0, 0, 2, 0), 1);
        value("first", x, at(0, 0, 2, 0), 231000);
        means("first", x, at(0, 0, 2, 0), 150, 0);
        does("one step left at 10", x, at(0, 0, 1, 10), 0);
        value("one step left at 10", x, at(0, 0, 1, 10), 231000);
        means("last piece, above fine", x, at(0, 1, 1, 100), 250, 0);
    }

    /** Promise 9: of several the lowest number. */
    private static void bestLowest() {
        EdgeAndSpeed pay = Check.laid("v10,10;p10,1,100,1;");
        does("a pass ahead of leaving", pay, at(0, 0, 1, 0), 0);
        value("a pass that earns nothing", pay, at(0, 0, 1, 0), 0);
        EdgeAndSpeed even = Check.laid("v10,10;v10,10;p10,2,100,90;h0;");
        does("the lower speed, the lower depth", even, at(0, 0, 2, 0), 0);
        EdgeAndSpeed none = Check.laid("v10,10;p10,1,100,90;k8,9;c0,0;");
        does("a change ahead of leaving", none, at(0, 0, 1, 5), 48);
        does("no change at 0", none, at(0, 0, 1, 0), 49);
        value("nothing may be", none, at(0, 0, 1, 5), 0);
        EdgeAndSpeed dear = Check.laid("v10,10;p10,1,100,90;k8,9;c0,1;");
        does("leaving ahead of a dear change", dear, at(0, 0, 1, 5), 49);
        EdgeAndSpeed poor = Check.laid("v10,10;p10,1,100,0;p10,1,100,50;");
        does("a piece worth nothing is left", poor, at(0, 0, 1, 0), 49);
        value("the next one is not", poor, at(0, 0, 1, 0), 294000);
        means("left is spoilt", poor, at(0, 0, 1, 0), 100, 1000000);
    }

    /** Promises 9, 10, 11: one speed, as deep as it can. */
    private static void set() {
        EdgeAndSpeed x = Check.laid(TWO_PIECES);
        does("set 0", x, at(1, 0, 2, 0), 1);
        value("set 0", x, at(1, 0, 2, 0), 228000);
        means("set 0", x, at(1, 0, 2, 0), 200, 0);
        x.hand(0, 1);
        does("set 1", x, at(1, 0, 2, 0), 9);
        value("set 1", x, at(1, 0, 2, 0), 204000);
        means("set 1", x, at(1, 0, 2, 0), 300, 0);
        EdgeAndSpeed deep = Check.laid("v10,10;v20,10;p10,8,100,10;k5,60;");
        does("no deeper than K", deep, at(1, 0, 8, 0), 4);
        does("no deeper than left", deep, at(1, 0, 3, 0), 2);
        deep.hand(0, 1);
        does("no deeper than O", deep, at(1, 0, 8, 0), 10);
        does("no deeper than O, slow", deep, at(5, 0, 8, 0), 4);
        EdgeAndSpeed none = Check.laid("v10,10;v90,10;p10,1,0,10;k5,60;");
        none.hand(0, 1);
        does("set leaves", none, at(1, 0, 1, 0), 49);
        does("set leaves, does not change", none, at(1, 0, 1, 50), 49);
        means("set leaves", none, at(1, 0, 1, 50), 0, 1000000);
    }

    /** Promise 9: a change above the limit, or above fine ahead of the last pass. */
    private static void setLimits() {
        EdgeAndSpeed x = Check.laid("v10,10;p10,4,30,10;k2,999;");
        does("first of two passes above fine", x, at(1, 0, 4, 31), 1);
        does("first of two passes at 100", x, at(1, 0, 3, 100), 1);
        does("last pass as fine", x, at(1, 0, 2, 30), 1);
        does("last pass above fine", x, at(1, 0, 2, 31), 48);
        does("last pass of one step above fine", x, at(1, 0, 1, 31), 48);
        x.hand(1, 20);
        does("as the limit", x, at(1, 0, 4, 20), 1);
        does("above the limit", x, at(1, 0, 4, 21), 48);
        does("above the limit, below fine", x, at(1, 0, 2, 21), 48);
        does("slow has the limit too", x, at(5, 0, 4, 21), 48);
        x.hand(1, 0);
        does("limit 0 at 0", x, at(1, 0, 4, 0), 1);
        does("limit 0 at 1", x, at(1, 0, 4, 1), 48);
        EdgeAndSpeed y = Check.laid("v10,10;p10,1,0,10;");
        does("fine 0 at 0", y, at(1, 0, 1, 0), 0);
        does("fine 0 at 1", y, at(1, 0, 1, 1), 48);
    }

    /** Promises 9, 10: changes with pieces n, 2 n, .. alone. */
    private static void count() {
        EdgeAndSpeed x = Check.laid(TWO_PIECES);
        does("n 8 above fine", x, at(2, 1, 1, 80), 0);
        value("n 8 above fine", x, at(2, 1, 1, 80), -6000);
        means("n 8 above fine", x, at(2, 1, 1, 80), 100, 1000000);
        x.hand(2, 1);
        value("n 1", x, at(2, 0, 2, 0), 198000);
        does("n 1, piece 0", x, at(2, 0, 2, 50), 1);
        does("n 1, piece 1 at 0", x, at(2, 1, 1, 0), 0);
        does("n 1, piece 1 at 1", x, at(2, 1, 1, 1), 48);
        x.hand(1, 0);
        does("no limit", x, at(2, 0, 2, 50), 1);
        EdgeAndSpeed y = Check.laid("v10,10;" + "p10,2,0,10;".repeat(8) + "k1,999;");
        for (int n = 1; n <= 8; n++) {
            y.hand(2, n);
            for (int p = 0; p < 8; p++) {
                boolean counted = p > 0 && p % n == 0;
                does("n " + n + " piece " + p, y, at(2, p, 2, 7), counted ? 48 : 0);
                does("n " + n + " begun piece " + p, y, at(2, p, 1, 7), 0);
            }
        }
    }

    /** Promise 9: as set it leaves, if no pass may be. */
    private static void countWithoutPass() {
        EdgeAndSpeed x = Check.laid("v10,10;p10,1,50,10;p10,1,50,10;k8,9;");
        x.hand(2, 1);
        does("count leaves", x, at(2, 1, 1, 50), 49);
        does("signs leave", x, at(3, 1, 1, 100), 49);
        does("slow leaves", x, at(5, 1, 1, 100), 49);
    }

    /** Promises 9, 10: wear less its last figure. */
    private static void signs() {
        EdgeAndSpeed x = Check.laid(TWO_PIECES);
        does("29 is 20", x, at(3, 1, 1, 29), 0);
        value("29 is above fine all the same", x, at(3, 1, 1, 29), -6000);
        does("30 is above 20", x, at(3, 1, 1, 30), 48);
        x.hand(1, 45);
        does("49 is 40", x, at(3, 0, 2, 49), 1);
        does("50 is above 45", x, at(3, 0, 2, 50), 48);
        does("set at 49", x, at(1, 0, 2, 49), 48);
        x.hand(1, 0);
        does("9 is 0", x, at(3, 0, 2, 9), 1);
        does("10 is above 0", x, at(3, 0, 2, 10), 48);
        x.hand(1, 99);
        does("99 is 90", x, at(3, 0, 2, 99), 48);
        does("100 is 100", x, at(3, 0, 2, 100), 48);
        EdgeAndSpeed y = Check.laid("v10,10;p10,2,90,10;");
        does("99 is 90", y, at(3, 0, 2, 99), 1);
        does("100 is 100", y, at(3, 0, 2, 100), 48);
        y.hand(0, 0);
    }

    /** Promises 9, 10: a piece done is worth 100000, minutes alone cost. */
    private static void quick() {
        EdgeAndSpeed x = Check.laid("v10,10;v20,100;p10,2,100,0;p10,1,100,0;h999;");
        does("best leaves", x, at(0, 0, 2, 0), 49);
        does("quick cuts", x, at(4, 0, 2, 0), 9);
        value("quick's value is in money", x, at(4, 0, 2, 0), -100 * 999);
        means("quick", x, at(4, 0, 2, 0), 100, 0);
        EdgeAndSpeed dear = Check.laid("v10,10;p10,1,20,99;c0,99;");
        does("best spoils it sooner than it changes", dear, at(0, 0, 1, 21), 49);
        does("quick asks no pence", dear, at(4, 0, 1, 21), 48);
        EdgeAndSpeed slow = Check.laid("v10,10;v99,10;p10,1,100,1;c99,0;b0,50;");
        does("quick takes the quick one", slow, at(4, 0, 1, 0), 8);
        // broken: 100 by 50 hundredths of 9900 for the change; 50000 - 4950 - 100 above 0 for leaving
        EdgeAndSpeed even = Check.laid("v10,0;p10,1,100,99;c1,0;b1,100;");
        does("a change and a pass", even, at(4, 0, 1, 1), 48);
        EdgeAndSpeed risky = Check.laid("v10,0;p99,1,100,99;c99,0;b0,92;");
        // 8000 less 9108 for the changes of 9900, less 990 for the pass: below leaving it
        does("quick leaves what costs more than it is worth", risky, at(4, 0, 1, 0), 49);
        EdgeAndSpeed less = Check.laid("v10,0;p99,1,100,99;c99,0;b0,90;");
        // 10000 less 8910 less 990: 100
        does("quick does what is worth a little", less, at(4, 0, 1, 0), 0);
        EdgeAndSpeed naught = Check.laid("v50,0;p41,1,100,99;c98,0;b0,91;");
        // 9000 less 8918 less 82: nothing, as leaving it
        does("a pass ahead of leaving", naught, at(4, 0, 1, 0), 0);
        EdgeAndSpeed cut = Check.laid("v55,2;v1,0;p55,2,100,99;c60,0;b1,5;k8,109;");
        // two passes, the second by 5 hundredths broken: 95000 less 300 less 200; one slow pass: 100000 less 5500
        does("as good, the lower number", cut, at(4, 0, 2, 0), 0);
        EdgeAndSpeed nought = Check.laid("v10,0;p1,1,100,99;c90,0;b0,91;");
        // 9000 less 8190 less 10
        does("quick pays for the broken edge's minutes", nought, at(4, 0, 1, 0), 0);
    }

    /** Promise 9: the speed of the least W, the lowest. */
    private static void slow() {
        EdgeAndSpeed x = Check.laid("v10,50;v20,30;v30,30;v40,31;p10,1,100,10;");
        does("slow", x, at(5, 0, 1, 0), 8);
        x.hand(0, 3);
        does("slow asks no S", x, at(5, 0, 1, 0), 8);
        EdgeAndSpeed y = Check.laid("v10,50;v20,30;v30,0;p10,1,100,10;");
        does("the last one", y, at(5, 0, 1, 0), 16);
        EdgeAndSpeed z = Check.laid("v10,0;v20,30;p10,1,100,10;");
        does("the first one", z, at(5, 0, 1, 0), 0);
    }

    /** Promises 10, 11: means, cut towards 0 at each pass. */
    private static void chances() {
        EdgeAndSpeed x = Check.laid("v99,999;p1,1,100,0;p1,1,100,0;b0,33;b5,50;c1,0;h1;");
        value("second piece at 9", x, at(1, 1, 1, 9), -52);
        value("second piece at 0", x, at(1, 1, 1, 0), -35);
        value("-79.39 cut, less 2", x, at(1, 0, 1, 0), -81);
        means("79.39 cut, and 2", x, at(1, 0, 1, 0), 81, 773900);
        means("second piece", x, at(1, 1, 1, 9), 52, 500000);
        EdgeAndSpeed y = Check.laid("v10,0;p10,1,100,10;b0,50;");
        value("half of 60000, half of -78000, less 6000", y, at(1, 0, 1, 0), -15000);
        does("best leaves it", y, at(0, 0, 1, 0), 49);
        value("best leaves it", y, at(0, 0, 1, 0), 0);
        means("half of a change, a pass", y, at(1, 0, 1, 0), 300, 500000);
        EdgeAndSpeed rare = Check.laid("v10,0;p10,2,100,10;p10,1,100,90;b0,99;k1,999;");
        // second piece: 5400 less 77220 less 6000 is -77820; first: 600 at the last pass, and what comes behind
        value("unbroken by one hundredth", rare, at(1, 1, 1, 0), 5400 - 77220 - 6000);
        value("so twice", rare, at(1, 0, 1, 0), 600 - 77220 - 77820 - 6000);
        value("one pass ahead of that", rare, at(1, 0, 2, 0), -155866 - 6000);
        value("new edges do not wear", Check.laid("v10,0;p10,1,100,10;"), at(0, 0, 1, 100), 54000);
        does("at wear 100", Check.laid("v10,0;p10,1,100,10;"), at(0, 0, 1, 100), 0);
        EdgeAndSpeed z = Check.laid("v10,0;p10,1,100,10;b0,100;b1,0;");
        value("breaks for sure", z, at(1, 0, 1, 0), -84000);
        value("does not", z, at(1, 0, 1, 1), 54000);
    }

    /** Promise 10: above 100 together it breaks for sure, at 100 it does not. */
    private static void sureBreak() {
        EdgeAndSpeed x = Check.laid("v10,100;p10,1,100,10;p10,1,100,20;");
        value("90 and 10", x, at(1, 0, 1, 90), 60000 - 6000 - 78000 - 6000);
        value("second piece at 90", x, at(1, 1, 1, 90), 114000);
        value("91 and 10", x, at(1, 1, 1, 91), -84000);
        value("91 and 10, then a new edge", x, at(1, 0, 1, 91), -84000 + 114000);
        means("91 and 10", x, at(1, 0, 1, 91), 600, 1000000);
        does("best changes", x, at(0, 0, 1, 91), 48);
        EdgeAndSpeed y = Check.laid("v10,999;p99,8,100,10;t400,10;");
        value("more than ever can be worn", y, at(1, 0, 8, 0), -78000 - 990 * 60);
    }

    /** Promises 10, 11: fine is asked of the last pass alone, of the wear ahead of it. */
    private static void fine() {
        EdgeAndSpeed x = Check.laid("v10,100;p10,3,15,10;k1,999;");
        x.hand(2, 8);
        // wear 10 a step: 0, 10, 20 ahead of the last pass
        value("count spoils it", x, at(2, 0, 3, 0), -18000);
        means("count spoils it", x, at(2, 0, 3, 0), 300, 1000000);
        value("two steps", x, at(2, 0, 2, 5), 60000 - 12000);
        value("fine is not above itself", x, at(2, 0, 1, 15), 54000);
        value("above", x, at(2, 0, 1, 16), -6000);
        value("set changes", x, at(1, 0, 3, 0), 60000 - 18000 - 78000);
    }

    /** Promise 11: pieces left are spoilt, too, broken ones, too coarse ones. */
    private static void spoiltMean() {
        EdgeAndSpeed x = Check.laid("v10,10;v99,10;p10,1,100,0;p10,1,100,0;p10,1,100,50;");
        means("two left", x, at(0, 0, 1, 0), 11, 2000000);
        x.hand(0, 1);
        means("set does all", x, at(1, 0, 1, 0), 33, 0);
        EdgeAndSpeed y = Check.laid("v10,0;p10,1,100,99;p10,1,100,99;p10,1,100,99;b0,33;");
        // a third each: 330000, 660000, 990000
        means("by hundredths", y, at(1, 0, 1, 0), 300 + 3 * 132, 990000);
        Check.due("spoilt of what 2", y.mean(1, 0, 0, 1, 0, 2), -1);
        Check.due("spoilt of what -1", y.mean(1, 0, 0, 1, 0, -1), -1);
    }

    /** Promises 9, 10: by steel. */
    private static void steels() {
        EdgeAndSpeed x = Check.laid("v10,100;v20,300;p10,1,50,10;p10,1,50,10;t100,5;t200,5;c9,9;");
        // 3000 less a pass by speed 1, but it wears 30 or 60
        Check.due("soft", x.does(0, 0, 0, 1, 0), 8);
        Check.due("hard", x.does(0, 1, 0, 1, 0), 0);
        Check.due("soft value", x.value(0, 0, 0, 1, 0), 120000 - 6000);
        Check.due("hard value", x.value(0, 1, 0, 1, 0), 120000 - 9000);
        Check.due("set in hard", x.value(1, 1, 0, 1, 41), 120000 - 12000 - 54 * 2000);
        Check.due("set in soft", x.value(1, 0, 0, 1, 41), 120000 - 12000 - 54 * 2000);
        Check.due("set in soft at 40", x.value(1, 0, 0, 1, 40), 120000 - 12000);
        Check.due("quick in soft", x.does(4, 0, 0, 1, 0), 8);
        Check.due("quick in hard", x.does(4, 1, 0, 1, 0), 0);
    }

    /** Promises 9 to 11: BAD. */
    private static void badStates() {
        EdgeAndSpeed x = Check.laid("v10,100;p10,3,50,10;p10,1,50,10;t100,5;t200,5;");
        int[][] bad = {{-1, 0, 0, 1, 0}, {6, 0, 0, 1, 0}, {0, -1, 0, 1, 0}, {0, 2, 0, 1, 0}, {0, 0, -1, 1, 0}, {0, 0, 2, 1, 0},
            {0, 0, 0, 0, 0}, {0, 0, 0, 4, 0}, {0, 0, 1, 2, 0}, {0, 0, 0, -1, 0}, {0, 0, 0, 1, -1}, {0, 0, 0, 1, 101},
            {Integer.MAX_VALUE, 0, 0, 1, 0}, {0, Integer.MIN_VALUE, 0, 1, 0}, {0, 0, Integer.MAX_VALUE, 1, 0},
            {0, 0, 0, Integer.MIN_VALUE, 0}, {0, 0, 0, 1, Integer.MAX_VALUE}};
        for (int[] b : bad) {
            Check.due("bad does", x.does(b[0], b[1], b[2], b[3], b[4]), -1);
            Check.due("bad value", x.value(b[0], b[1], b[2], b[3], b[4]), LEAST);
            Check.due("bad mean 0", x.mean(b[0], b[1], b[2], b[3], b[4], 0), -1);
            Check.due("bad mean 1", x.mean(b[0], b[1], b[2], b[3], b[4], 1), -1);
        }
        Check.holds("the last good ones", x.does(5, 1, 1, 1, 100) >= 0 && x.value(5, 1, 0, 3, 100) > LEAST);
    }

    /** Promise 12: the first state in which it has less than the best. */
    private static void judge() {
        EdgeAndSpeed x = Check.laid(TWO_PIECES);
        Check.due("best", x.judge(0, 0), -4);
        Check.due("set 0: as the best, then slower at 20", x.judge(1, 0), 1020);
        x.hand(0, 1);
        Check.due("set 1 from the begin", x.judge(1, 0), 0);
        x.hand(0, 0);
        x.hand(2, 1);
        // at piece 1 it changes at 20, and at 0, to which it comes so, it is slow: 0 is the first
        Check.due("count 1 changes at 20", x.judge(2, 0), 1000);
        Check.due("quick does as the best", x.judge(4, 0), -4);
        Check.due("hand 6", x.judge(6, 0), -1);
        Check.due("hand -1", x.judge(-1, 0), -1);
        Check.due("steel 1", x.judge(0, 1), -1);
        Check.due("steel -1", x.judge(0, -1), -1);
        EdgeAndSpeed even = Check.laid("v10,10;v10,10;p10,2,100,90;h0;");
        even.hand(0, 1);
        Check.due("another number, the same value", even.judge(1, 0), -4);
    }

    /** Promise 12: wear 100, one step left, the last piece. */
    private static void judgeLast() {
        EdgeAndSpeed x = Check.laid("v10,250;p10,4,100,90;p10,1,100,0;");
        // speed 0 wears 100 in piece 0 and costs nothing but minutes; piece 1 is worth nothing, at 100 it breaks
        Check.due("at 100", x.judge(1, 0), 1100);
        Check.due("one step left", Check.laid("v10,0;v20,0;p10,2,100,90;k2,20;").judge(1, 0), -4);
    }

    /** Promise 12: more left first, less wear first; what it may come to alone. */
    private static void judgeReach() {
        // set cuts 1 step at a time and wears 10: fine 5 makes it change ahead of the last
        EdgeAndSpeed x = Check.laid("v10,100;p10,3,5,90;k1,999;");
        x.hand(1, 9);
        // at 10 with 2 left it changes, which the best does with 1 left, but at once or then costs the same in all:
        // best: cut, cut, change, cut; set: cut, change, cut, change, cut
        Check.due("changes too often", x.judge(1, 0), 101 * 1 + 10);
        x.hand(1, 100);
        Check.due("changes once", x.judge(1, 0), -4);
        // speed 0 wears 50 in piece 0, so speed 1, which wears 60, is the better one in piece 1 at 0 alone
        String bench = "v10,250;v15,600;p10,2,100,90;p10,1,100,90;k8,29;";
        Check.due("comes to 50 alone", Check.laid(bench).judge(1, 0), -4);
        Check.due("by a break it comes to 0", Check.laid(bench + "b0,1;b1,0;").judge(1, 0), 1000);
        // a first pass always breaks, so it never comes to 10, where it would change and break again
        EdgeAndSpeed sure = Check.laid("v10,100;p10,1,100,5;p10,1,100,5;h0;c0,0;b0,100;b10,0;");
        sure.hand(1, 5);
        Check.due("never comes there unbroken", sure.judge(1, 0), -4);
        Check.due("there it is worse", sure.value(1, 0, 1, 1, 10), 0);
        Check.due("than the best", sure.value(0, 0, 1, 1, 10), 30000);
        // a hand that comes nowhere where it errs: SET 1 would err at wear 1, but never comes there
        EdgeAndSpeed v = Check.laid("v10,0;v20,0;p10,1,100,90;p10,1,100,90;b1,100;");
        v.hand(0, 1);
        Check.due("does not err at 0", v.judge(1, 0), -4);
        EdgeAndSpeed u = Check.laid("v10,0;v20,100;p10,1,100,90;p10,1,100,90;b10,100;");
        // speed 1 wears 10: then it breaks, so the best cuts piece 0 by speed 0
        u.hand(0, 1);
        Check.due("errs at 0", u.judge(1, 0), 0);
        u.hand(0, 0);
        Check.due("is slow in the last piece", u.judge(1, 0), 1000);
    }

    /** Promise 13: least cost, of these fewest passes, of these the lowest first one. */
    private static void parted() {
        String bench = "v10,0;v40,0;p40,4,100,10;p40,3,100,10;k8,80;b0,99;";
        EdgeAndSpeed x = Check.laid(bench);
        parted("two quick passes", x, new int[] {0, 0, 0}, new long[] {12000, 2, 9});
        parted("one step, then two", x, new int[] {1, 0, 0}, new long[] {12000, 2, 8});
        EdgeAndSpeed free = Check.laid(bench + "h0;");
        parted("all rows cost nothing", free, new int[] {0, 0, 0}, new long[] {0, 1, 3});
        EdgeAndSpeed one = Check.laid("v10,100;v20,400;v30,999;p10,2,50,10;");
        parted("new edge", one, new int[] {0, 0, 0}, new long[] {3000, 1, 9});
        parted("80 and 20", one, new int[] {0, 0, 20}, new long[] {3000, 1, 9});
        parted("80 and 21", one, new int[] {0, 0, 21}, new long[] {6000, 1, 1});
        parted("as fine", one, new int[] {0, 0, 50}, new long[] {6000, 1, 1});
        parted("above fine", one, new int[] {0, 0, 51}, new long[] {-4, -4, -4});
        parted("worn", one, new int[] {0, 0, 100}, new long[] {-4, -4, -4});
    }

    /** Promise 13: rows in which no edge breaks for sure; fine ahead of the last pass; nothing deeper than may be. */
    private static void partedRows() {
        EdgeAndSpeed x = Check.laid("v10,100;p10,8,35,10;k3,999;");
        // 8 steps wear 80, three a pass: 3, 3, 2 would come to 60 ahead of the last; only 3, 2, 3 and less: at most 35
        parted("nothing at fine 35 in three passes", x, new int[] {0, 0, 0}, new long[] {-4, -4, -4});
        EdgeAndSpeed y = Check.laid("v10,100;p10,8,60,10;k3,999;");
        parted("two steps, three, three", y, new int[] {0, 0, 0}, new long[] {18000, 3, 1});
        parted("at 10", y, new int[] {0, 0, 10}, new long[] {18000, 3, 1});
        parted("at 11", y, new int[] {0, 0, 11}, new long[] {-4, -4, -4});
        EdgeAndSpeed z = Check.laid("v10,100;p10,8,100,10;k3,999;t100,4;t125,3;t126,3;");
        parted("100 at the end", z, new int[] {0, 1, 0}, new long[] {18000, 3, 1});
        // cut at each pass: 37, 37, 25 make 99
        parted("cut at each pass", z, new int[] {0, 2, 0}, new long[] {18000, 3, 1});
        parted("99 and 1", z, new int[] {0, 1, 1}, new long[] {18000, 3, 1});
        EdgeAndSpeed none = Check.laid("v10,100;p10,1,100,10;k8,9;");
        parted("nothing may be", none, new int[] {0, 0, 0}, new long[] {-4, -4, -4});
    }

    private static void parted(String what, EdgeAndSpeed x, int[] s, long[] due) {
        for (int i = 0; i < 3; i++) {
            Check.due(what + " parted " + i, x.parted(s[0], s[1], s[2], i), due[i]);
        }
    }

    private static void partedBad() {
        EdgeAndSpeed x = Check.laid("v10,100;p10,3,50,10;p10,1,50,10;t100,5;t200,5;");
        int[][] bad = {{-1, 0, 0, 0}, {2, 0, 0, 0}, {0, -1, 0, 0}, {0, 2, 0, 0}, {0, 0, -1, 0}, {0, 0, 101, 0}, {0, 0, 0, -1},
            {0, 0, 0, 3}, {Integer.MAX_VALUE, 0, 0, 0}, {0, 0, Integer.MIN_VALUE, 0}};
        for (int[] b : bad) {
            Check.due("bad parted", x.parted(b[0], b[1], b[2], b[3]), -1);
        }
    }
}
