/** Promises 14 to 20: each sentence on steels, lathes, shops, pay that names a bound, the bound itself and what stands beside it. */
final class ShopEdgesTest {
    private static final long LEAST = Long.MIN_VALUE;
    private static final long NO = LEAST + 2;
    private static final long NONE = LEAST + 4;
    /** Six speeds, eight pieces (the last one too deep for any), four steels. */
    private static final String FULL_BENCH = "v10,10;v20,20;v30,30;v40,40;v50,50;v60,60;p10,1,50,10;p10,1,50,10;p10,1,50,10;p10,1,50,10;"
            + "p10,1,50,10;p10,1,50,10;p10,1,50,10;p10,8,50,10;k7,999;t100,1;t110,2;t120,3;t130,4;";

    private ShopEdgesTest() {
    }

    public static void main(String[] args) {
        guessBounds();
        guessOfOne();
        blindBounds();
        blindFirstOfSeveral();
        blindWithoutChance();
        blindBelowNothing();
        twoBounds();
        twoBothWantHim();
        twoServedAtOnce();
        twoWaitsAtItsEnds();
        twoLongest();
        earnsBounds();
        earnsGreaterOfTimes();
        earnsCut();
        earnsAsDeepAsItIs();
        shopBounds();
        shopLowest();
        payBounds();
        payAtTies();
        payCut();
        bestPayBounds();
        bestPayLeast();
        Check.end();
    }

    private static int[] with(int[] good, int place, int number) {
        int[] all = good.clone();
        all[place] = number;
        return all;
    }

    private static int[] beside(int least, int most) {
        return new int[] {least - 1, most + 1, most + 256, Integer.MIN_VALUE, Integer.MAX_VALUE};
    }

    /** Promise 14: steels of the bench; BAD answers the least long. */
    private static void guessBounds() {
        EdgeAndSpeed x = Check.laid(FULL_BENCH);
        int[] ends = {0, 3};
        for (int g : ends) {
            for (int h : ends) {
                Check.holds("guess " + g + " " + h, x.guess(g, h) > LEAST);
            }
            for (int b : beside(0, 3)) {
                Check.due("guess " + g + " " + b, x.guess(g, b), LEAST);
                Check.due("guess " + b + " " + g, x.guess(b, g), LEAST);
            }
        }
        Check.due("guess -1 4", x.guess(-1, 4), LEAST);
    }

    private static void guessOfOne() {
        EdgeAndSpeed x = new EdgeAndSpeed();
        Check.due("guess 0 0", x.guess(0, 0), 54000);
        Check.due("guess 0 1", x.guess(0, 1), LEAST);
        Check.due("guess 1 0", x.guess(1, 0), LEAST);
        EdgeAndSpeed same = Check.laid("v10,400;p10,3,50,90;p10,2,50,90;t80,5;t120,5;");
        for (int h = 0; h < 2; h++) {
            Check.due("a guess that is right is BEST", same.guess(h, h), same.value(0, h, 0, 3, 0));
        }
    }

    /** Promise 15: what is 0 to 3. */
    private static void blindBounds() {
        EdgeAndSpeed x = Check.laid(FULL_BENCH);
        for (int what = 0; what < 4; what++) {
            Check.holds("blind " + what, x.blind(what) >= 0);
        }
        for (int b : beside(0, 3)) {
            Check.due("blind " + b, x.blind(b), LEAST);
        }
        Check.due("known less blind", x.blind(3), x.blind(2) - x.blind(1));
    }

    private static void blind(String bench, long[] due) {
        EdgeAndSpeed x = Check.laid(bench);
        for (int what = 0; what < 4; what++) {
            Check.due(bench + " blind " + what, x.blind(what), due[what]);
        }
    }

    /** "the GUESS of the greatest sum", of several the first: four as one, the last one better. */
    private static void blindFirstOfSeveral() {
        String bench = "v10,0;v20,600;p10,1,100,10;";
        blind(bench + "t100,2;t100,2;t100,3;t100,3;", new long[] {0, 570000, 570000, 0});
        blind(bench + "t300,0;t300,0;t300,0;t100,10;", new long[] {3, 570000, 570000, 0});
        blind(bench + "t300,0;t100,10;t100,0;t100,0;", new long[] {1, 570000, 570000, 0});
    }

    /** C 0: its BEST may be the guess all the same, its value counts for nothing. */
    private static void blindWithoutChance() {
        String bench = "v10,0;v20,600;p10,1,100,10;";
        // a guess of soft steel breaks the edge in hard steel
        blind(bench + "t100,0;t200,10;", new long[] {1, 540000, 540000, 0});
        blind(bench + "t200,10;t100,0;", new long[] {0, 540000, 540000, 0});
        blind(bench + "t100,0;t150,0;t160,10;", new long[] {0, 570000, 570000, 0});
    }

    /** A sum of nothing, and none above it: the first is taken as well. */
    private static void blindBelowNothing() {
        blind("v10,0;p10,1,100,0;", new long[] {0, 0, 0, 0});
        blind("v10,0;p10,1,100,0;t100,5;t200,5;", new long[] {0, 0, 0, 0});
        blind("v10,0;p10,1,100,1;h60;t1,5;t2,5;", new long[] {0, 0, 0, 0});
        // in soft steel a pass earns 3000 or, broken, costs 78000: each other guess than leaving it is below nothing
        blind("v20,600;p10,1,100,1;t100,1;t200,9;", new long[] {1, 0, 3000, 3000});
    }

    private static int two(EdgeAndSpeed x, int[] a) {
        return x.two(a[0], a[1], a[2], a[3], a[4]);
    }

    /** Promise 16: a, b 1 to 99; x, y 1 to 30; what 0 to 2. */
    private static void twoBounds() {
        EdgeAndSpeed s = new EdgeAndSpeed();
        int[][] bounds = {{1, 99}, {1, 30}, {1, 99}, {1, 30}, {0, 2}};
        int[] good = {7, 7, 7, 7, 0};
        for (int place = 0; place < 5; place++) {
            for (int b : bounds[place]) {
                Check.holds("two " + place + " " + b, two(s, with(good, place, b)) >= 0);
            }
            for (int b : beside(bounds[place][0], bounds[place][1])) {
                Check.due("two " + place + " " + b, two(s, with(good, place, b)), -1);
            }
        }
    }

    private static void two(int[] a, int[] due) {
        EdgeAndSpeed s = new EdgeAndSpeed();
        for (int what = 0; what < 3; what++) {
            Check.due("two " + java.util.Arrays.toString(a) + " " + what, s.two(a[0], a[1], a[2], a[3], what), due[what]);
        }
    }

    /** "Who wants him first has him, the first lathe if both do". */
    private static void twoBothWantHim() {
        // at 2 both: the first to 3, the other to 5; the first runs 3 to 5, has him at once to 6 (both want: it ran first);
        // the other runs 5 to 7; the first runs 6 to 8: gap 1 at 6; at 7 the other has him to 9, the first waits 8 to 9, to 10
        two(new int[] {2, 1, 2, 2}, Model.two(2, 1, 2, 2));
        // both at 5: first to 10, other 10 to 17, first runs 10 to 15, waits 2, 17 to 22; other runs 17 to 28 ..
        two(new int[] {5, 5, 5, 5}, new int[] {10, 0, 20});
        two(new int[] {10, 5, 10, 5}, Model.two(10, 5, 10, 5));
        two(new int[] {10, 6, 10, 5}, Model.two(10, 6, 10, 5));
        two(new int[] {10, 5, 10, 6}, Model.two(10, 5, 10, 6));
    }

    /** A lathe that wants him when he has just become free waits for nothing. */
    private static void twoServedAtOnce() {
        two(new int[] {1, 1, 1, 1}, new int[] {2, 0, 4});
        two(new int[] {1, 2, 1, 1}, Model.two(1, 2, 1, 1));
        two(new int[] {99, 30, 1, 1}, Model.two(99, 30, 1, 1));
        two(new int[] {1, 1, 99, 30}, Model.two(1, 1, 99, 30));
    }

    /** "waits in it: of all whose serving begins in it (not at its end)". */
    private static void twoWaitsAtItsEnds() {
        // the round is 91 to 151: the other is served at 91 (29 waited), the first at 121 (29 waited); at 151 the other again
        two(new int[] {1, 30, 1, 30}, new int[] {60, 58, 91});
        two(new int[] {1, 30, 1, 29}, Model.two(1, 30, 1, 29));
        two(new int[] {1, 29, 1, 30}, Model.two(1, 29, 1, 30));
        two(new int[] {99, 30, 99, 30}, new int[] {129, 0, 258});
        two(new int[] {1, 1, 1, 30}, Model.two(1, 1, 1, 30));
        two(new int[] {1, 30, 1, 1}, Model.two(1, 30, 1, 1));
    }

    /** "none, if there is no such time to 20000": the longest way to a round's end that there is, 10001. */
    private static void twoLongest() {
        EdgeAndSpeed s = new EdgeAndSpeed();
        Check.due("its end", s.two(99, 1, 99, 2, 0) + s.two(99, 1, 99, 2, 2), 10001);
        two(new int[] {99, 1, 99, 2}, Model.two(99, 1, 99, 2));
        EdgeAndSpeed all = new EdgeAndSpeed();
        int calls = 0;
        int none = 0;
        int latest = 0;
        for (int a = 1; a <= 99; a += 2) {
            for (int x = 1; x <= 30; x++) {
                for (int b = 1; b <= 99; b += 7) {
                    for (int y = 1; y <= 30; y++) {
                        // an object is used for 512 calls at most
                        calls += 2;
                        all = calls % 512 == 0 ? new EdgeAndSpeed() : all;
                        int minutes = all.two(a, x, b, y, 0);
                        none += minutes < 1 ? 1 : 0;
                        latest = Math.max(latest, minutes + all.two(a, x, b, y, 2));
                    }
                }
            }
        }
        Check.due("none of them is none", none, 0);
        Check.due("the latest of all is told above", latest, 10001);
    }

    /** Promise 17: pieces, speeds, t 1 to 9999; BAD ahead of NO. */
    private static void earnsBounds() {
        EdgeAndSpeed x = Check.laid(FULL_BENCH);
        int[][] bounds = {{0, 6}, {0, 5}, {1, 9999}};
        int[] good = {0, 0, 1};
        for (int place = 0; place < 3; place++) {
            for (int b : bounds[place]) {
                int[] a = with(good, place, b);
                Check.holds("earns " + place + " " + b, x.earns(a[0], a[1], a[2]) > NONE);
            }
            for (int b : beside(bounds[place][0], place == 0 ? 7 : bounds[place][1])) {
                int[] a = with(good, place, b);
                Check.due("earns " + place + " " + b, x.earns(a[0], a[1], a[2]), LEAST);
                int[] deep = with(new int[] {7, 0, 1}, place, b);
                Check.due("BAD ahead of NO " + place + " " + b, x.earns(deep[0], deep[1], deep[2]), LEAST);
            }
        }
        Check.due("too deep", x.earns(7, 0, 1), NO);
        Check.due("too deep", x.earns(7, 5, 9999), NO);
    }

    /** "by the greater of TIME and t": t one less, as much, one more. */
    private static void earnsGreaterOfTimes() {
        // takes 100, wears 5, a change 2 minutes: TIME 110; 60000 less 60 times 5 times 3 is 59100
        EdgeAndSpeed x = Check.laid("v10,50;p10,1,100,10;c2,3;h0;");
        long sum = 59100L * 6000;
        int[][] due = {{1, 110}, {109, 110}, {110, 110}, {111, 111}, {9999, 9999}};
        for (int[] d : due) {
            Check.due("t " + d[0], x.earns(0, 0, d[0]), sum / d[1]);
        }
        EdgeAndSpeed free = Check.laid("v10,50;p10,1,100,10;c0,0;h0;");
        Check.due("M 0: the pass alone", free.earns(0, 0, 1), 60000L * 6000 / 100);
        EdgeAndSpeed fast = Check.laid("v99,0;p1,1,100,999;c99,99;h999;");
        Check.due("the shortest TIME", fast.earns(0, 0, 1), 6000L * 999 * 6000 / 2 - 6000L * 999);
        EdgeAndSpeed longest = Check.laid("v1,999;p99,8,0,999;c99,99;h999;t400,10;");
        long time = 9900 + 31648L * 99;
        Check.due("the longest TIME", longest.earns(0, 0, 9999), (6000L * 999 - 60L * 31648 * 99) * 6000 / time - 6000L * 999);
    }

    /** "times 6000 by the greater, cut": towards 0, above it and below it. */
    private static void earnsCut() {
        EdgeAndSpeed above = Check.laid("v10,0;p10,1,100,1;h0;");
        Check.due("36000000 by 7000", above.earns(0, 0, 7000), 5142);
        // wears 1: -60 times 6000 by 7000 is -51.4
        EdgeAndSpeed below = Check.laid("v10,10;p10,1,100,0;c0,1;h0;");
        Check.due("-360000 by 7000", below.earns(0, 0, 7000), -51);
        Check.due("less an hour's pence", Check.laid("v10,10;p10,1,100,0;c0,1;h999;").earns(0, 0, 7000), -51 - 5994000);
        Check.due("nothing", Check.laid("v10,10;p10,1,100,0;c0,0;h0;").earns(0, 0, 1), 0);
    }

    /** "a PIECE p in one PASS of all its STEPS by SPEED i (if it may be), in STEEL 0": K, O; WEAR does not forbid it. */
    private static void earnsAsDeepAsItIs() {
        EdgeAndSpeed x = Check.laid("v10,0;v11,0;p10,5,100,10;p10,6,100,10;p10,4,100,10;k5,50;");
        Check.holds("D as K, Q times D as O", x.earns(0, 0, 1) > NONE);
        Check.due("Q times D above O", x.earns(0, 1, 1), NO);
        Check.due("D above K", x.earns(1, 0, 1), NO);
        Check.holds("Q times D below O", x.earns(2, 1, 1) > NONE);
        EdgeAndSpeed worn = Check.laid("v25,101;p25,1,100,10;c0,0;h0;t400,10;");
        Check.due("wears 101", worn.earns(0, 0, 1), 60000L * 6000 / 100);
        EdgeAndSpeed steels = Check.laid("v10,100;p10,1,100,10;c1,0;h0;t100,0;t400,10;");
        Check.due("by steel 0, though it is not likely", steels.earns(0, 0, 1), 60000L * 6000 / 110);
    }

    /** Promise 18: pieces, t 1 to 9999; BAD ahead of NONE. */
    private static void shopBounds() {
        EdgeAndSpeed x = Check.laid(FULL_BENCH);
        for (int p : new int[] {0, 6}) {
            for (int t : new int[] {1, 9999}) {
                Check.holds("shop " + p + " " + t, x.shop(p, t) >= 0);
            }
        }
        Check.due("none may be", x.shop(7, 1), -4);
        Check.due("none may be", x.shop(7, 9999), -4);
        for (int b : beside(0, 7)) {
            Check.due("piece " + b, x.shop(b, 1), -1);
        }
        for (int b : beside(1, 9999)) {
            Check.due("t " + b, x.shop(0, b), -1);
            Check.due("BAD ahead of NONE, t " + b, x.shop(7, b), -1);
        }
    }

    /** "of several the lowest; none may be": one alone that may be, the last; even ones; all below nothing. */
    private static void shopLowest() {
        EdgeAndSpeed last = Check.laid("v60,0;v50,0;v40,0;v30,0;v20,0;v10,999;p10,8,100,0;k8,80;");
        Check.due("the last one alone", last.shop(0, 1), 5);
        EdgeAndSpeed even = Check.laid("v10,0;v20,0;v20,0;v20,0;p10,1,100,10;");
        Check.due("the first of even ones", even.shop(0, 1), 1);
        Check.due("t 49", even.shop(0, 49), 1);
        Check.due("t 50", even.shop(0, 50), 1);
        Check.due("t 99", even.shop(0, 99), 1);
        Check.due("t 100: all are even", even.shop(0, 100), 0);
        Check.due("t 101", even.shop(0, 101), 0);
        EdgeAndSpeed nothing = Check.laid("v20,0;v10,0;p10,1,100,0;");
        Check.due("all earn nothing", nothing.shop(0, 1), 0);
        EdgeAndSpeed loss = Check.laid("v20,100;v10,50;p10,1,100,0;c0,9;");
        Check.due("the least loss", loss.shop(0, 1), 1);
    }

    /** Promise 19: pieces, u 0 to 99, e 0 to 99; BAD ahead of NONE, by what. */
    private static void payBounds() {
        EdgeAndSpeed x = Check.laid(FULL_BENCH);
        int[][] bounds = {{0, 6}, {0, 99}, {0, 99}};
        int[] good = {0, 5, 5};
        for (int place = 0; place < 3; place++) {
            for (int b : bounds[place]) {
                int[] a = with(good, place, b);
                Check.holds("pay " + place + " " + b, x.pay(a[0], a[1], a[2], 0) >= 0);
                Check.holds("pay's rest " + place + " " + b, x.pay(a[0], a[1], a[2], 1) > NONE);
            }
            for (int b : beside(bounds[place][0], place == 0 ? 7 : bounds[place][1])) {
                int[] a = with(new int[] {7, 5, 5}, place, b);
                Check.due("BAD, man's " + place + " " + b, x.pay(a[0], a[1], a[2], 0), -1);
                Check.due("BAD, shop's " + place + " " + b, x.pay(a[0], a[1], a[2], 1), LEAST);
                int[] c = with(good, place, b);
                Check.due("BAD, man's " + place + " " + b, x.pay(c[0], c[1], c[2], 0), -1);
                Check.due("BAD, shop's " + place + " " + b, x.pay(c[0], c[1], c[2], 1), LEAST);
            }
        }
        for (int u : new int[] {0, 99}) {
            for (int e : new int[] {0, 99}) {
                Check.due("none may be, man", x.pay(7, u, e, 0), -4);
                Check.due("none may be, shop", x.pay(7, u, e, 1), NONE);
            }
        }
        Check.holds("what 2 is none that is told", x.pay(0, 5, 5, 2) < 0);
        Check.holds("what -1 is none that is told", x.pay(0, 5, 5, -1) < 0);
    }

    /** "by which that less (6000 times e times Q) is greatest, the lowest". */
    private static void payAtTies() {
        // he gets 360000 u or 720000 u, his toil is 60000 e or 120000 e: as good at e 6 u
        EdgeAndSpeed x = Check.laid("v10,0;v20,0;v20,0;p10,1,100,10;h0;");
        for (int u : new int[] {0, 1, 5, 16}) {
            Check.due("even, u " + u, x.pay(0, u, 6 * u, 0), 0);
            Check.due("a little more toil, u " + u, x.pay(0, u, 6 * u + 1, 0), 0);
            Check.due("a little less toil, u " + u, u == 0 ? 1 : x.pay(0, u, 6 * u - 1, 0), 1);
        }
        Check.due("no pay, no toil: the lowest", x.pay(0, 0, 0, 0), 0);
        Check.due("the shop has all", x.pay(0, 0, 0, 1), 3600000);
        Check.due("pay and no toil: the quick one, the lower", x.pay(0, 1, 0, 0), 1);
        Check.due("the shop has the rest", x.pay(0, 1, 0, 1), 7200000 - 720000);
        Check.due("99 pence", x.pay(0, 99, 0, 1), 7200000 - 99 * 720000L);
        EdgeAndSpeed deep = Check.laid("v99,0;v10,0;p10,5,100,10;k8,50;");
        Check.due("that may be", deep.pay(0, 99, 0, 0), 1);
    }

    /** "(6000 times u times 6000 by TIME, cut)". */
    private static void payCut() {
        EdgeAndSpeed x = Check.laid("v7,0;p1,1,100,10;h0;");
        // TIME 15: 36000000 by 15 is 2400000
        Check.due("no rest", x.pay(0, 1, 0, 1), 24000000 - 2400000);
        EdgeAndSpeed y = Check.laid("v6,0;p1,1,100,10;h0;");
        // TIME 17: 2117647.05 u
        Check.due("cut for itself", y.pay(0, 1, 0, 1), 21176470 - 2117647);
        Check.due("17 u", y.pay(0, 17, 0, 1), 21176470 - 36000000);
        Check.due("16 u", y.pay(0, 16, 0, 1), 21176470 - 33882352);
    }

    /** Promise 20: pieces, e 0 to 99; BAD ahead of NONE. */
    private static void bestPayBounds() {
        EdgeAndSpeed x = Check.laid(FULL_BENCH);
        for (int p : new int[] {0, 6}) {
            for (int e : new int[] {0, 99}) {
                Check.holds("best pay " + p + " " + e, x.bestPay(p, e) >= 0);
            }
        }
        Check.due("none may be", x.bestPay(7, 0), -4);
        Check.due("none may be", x.bestPay(7, 99), -4);
        for (int b : beside(0, 7)) {
            Check.due("piece " + b, x.bestPay(b, 0), -1);
        }
        for (int b : beside(0, 99)) {
            Check.due("e " + b, x.bestPay(0, b), -1);
            Check.due("BAD ahead of NONE, e " + b, x.bestPay(7, b), -1);
        }
    }

    /** "that u by which the shop has most, the least": 0, 99, none above 99. */
    private static void bestPayLeast() {
        Check.due("one speed: nothing", Check.laid("v10,0;p10,1,100,10;").bestPay(0, 0), 0);
        Check.due("no toil: a penny moves him", Check.laid("v10,0;v20,0;p10,1,100,10;").bestPay(0, 0), 1);
        // 360000 u against 60000 e more toil: from u above e by 6 on; the shop has 7200000 less 720000 u then, else 3600000
        Check.due("e 23: 4 pence", Check.laid("v10,0;v20,0;p10,1,100,10;").bestPay(0, 23), 4);
        Check.due("e 24: 5 pence bring as much as none", Check.laid("v10,0;v20,0;p10,1,100,10;").bestPay(0, 24), 0);
        Check.due("e 29: likewise", Check.laid("v10,0;v20,0;p10,1,100,10;").bestPay(0, 29), 0);
        Check.due("e 99: no pay moves him for less", Check.laid("v10,0;v20,0;p10,1,100,10;").bestPay(0, 99), 0);
        Check.due("99 pence", Check.laid("v1,0;v2,0;p98,1,100,999;").bestPay(0, 60), 99);
        Check.due("more than 99 are none", Check.laid("v1,0;v2,0;p99,1,100,999;").bestPay(0, 60), 0);
        EdgeAndSpeed loss = Check.laid("v10,0;v20,0;p10,1,100,0;h999;");
        Check.due("the shop has less than nothing", loss.bestPay(0, 0), 0);
    }
}
