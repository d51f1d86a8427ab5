/** Promises 16 to 20: two, earns, shop, pay, bestPay. */
final class ShopsTest {
    private static final long LEAST = Long.MIN_VALUE;
    private static final long NO = LEAST + 2;
    private static final long NONE = LEAST + 4;
    /** Speed 0: 100 hundredths, wears 10; speed 1: 50 hundredths, wears 40; speed 2 may not be. */
    private static final String SPEEDS = "v10,100;v20,400;v30,1;p10,2,50,10;p10,3,50,10;h30;k2,59;t50,4;t400,6;";

    private ShopsTest() {
    }

    public static void main(String[] args) {
        two();
        twoBad();
        earns();
        earnsAtBounds();
        shop();
        pay();
        payNot();
        bestPay();
        Check.end();
    }

    private static void two(int[] s, int[] due) {
        EdgeAndSpeed x = new EdgeAndSpeed();
        for (int what = 0; what < 3; what++) {
            Check.due("two " + s[0] + " " + s[1] + " " + s[2] + " " + s[3] + " " + what,
                    x.two(s[0], s[1], s[2], s[3], what), due[what]);
        }
    }

    /** Promise 16: the round's minutes, its waits, when it begins. */
    private static void two() {
        two(new int[] {1, 1, 1, 1}, new int[] {2, 0, 4});
        two(new int[] {2, 1, 4, 1}, new int[] {6, 1, 12});
        two(new int[] {1, 30, 1, 30}, new int[] {60, 58, 91});
        two(new int[] {99, 1, 99, 1}, new int[] {100, 0, 200});
        two(new int[] {99, 30, 99, 30}, new int[] {129, 0, 258});
        // the other is served thirty times while the first runs: 0, 3, 6, .. it begins to run; the first wants at 90
        two(new int[] {90, 3, 2, 1}, Model.two(90, 3, 2, 1));
        for (int a = 1; a <= 99; a += 14) {
            for (int y = 1; y <= 30; y++) {
                two(new int[] {a, 31 - y, 100 - a, y}, Model.two(a, 31 - y, 100 - a, y));
            }
        }
        two(new int[] {99, 1, 99, 2}, Model.two(99, 1, 99, 2));
    }

    private static void twoBad() {
        EdgeAndSpeed x = new EdgeAndSpeed();
        int[][] bad = {{0, 1, 1, 1, 0}, {100, 1, 1, 1, 0}, {1, 0, 1, 1, 0}, {1, 31, 1, 1, 0}, {1, 1, 0, 1, 0}, {1, 1, 100, 1, 0},
            {1, 1, 1, 0, 0}, {1, 1, 1, 31, 0}, {1, 1, 1, 1, -1}, {1, 1, 1, 1, 3}, {Integer.MIN_VALUE, 1, 1, 1, 0},
            {1, Integer.MAX_VALUE, 1, 1, 0}};
        for (int[] b : bad) {
            Check.due("bad two", x.two(b[0], b[1], b[2], b[3], b[4]), -1);
        }
        Check.holds("the last good ones", x.two(99, 30, 99, 30, 2) >= 0 && x.two(1, 1, 1, 1, 0) > 0);
    }

    /** Promise 17: by steel 0; the greater of time and t; cut. */
    private static void earns() {
        EdgeAndSpeed x = Check.laid(SPEEDS + "c2,3;");
        Check.due("58200 by 120", x.earns(0, 0, 1), 2910000 - 180000);
        Check.due("t as the time", x.earns(0, 0, 120), 2910000 - 180000);
        Check.due("58200 by 121", x.earns(0, 0, 121), 2885950 - 180000);
        Check.due("58200 by 200", x.earns(0, 0, 200), 1746000 - 180000);
        Check.due("52800 by 130", x.earns(0, 1, 1), 2436923 - 180000);
        Check.due("58200 by 9999", x.earns(0, 0, 9999), 34923 - 180000);
        EdgeAndSpeed poor = Check.laid("v10,100;p10,2,50,0;h30;t50,10;c2,3;");
        Check.due("-1800 by 7000, cut", poor.earns(0, 0, 7000), -1542 - 180000);
        EdgeAndSpeed worn = Check.laid("v10,999;p99,1,50,100;t400,10;c1,2;");
        // it wears 3956, so it takes 990 and 3956; wear above 100 is no hindrance
        Check.due("more than an edge", worn.earns(0, 0, 1), (600000L - 60 * 3956 * 2) * 6000 / 4946 - 360000);
    }

    private static void earnsAtBounds() {
        EdgeAndSpeed x = Check.laid(SPEEDS + "c2,3;");
        Check.due("too much for it", x.earns(0, 2, 1), NO);
        Check.due("too deep", x.earns(1, 0, 1), NO);
        int[][] bad = {{-1, 0, 1}, {2, 0, 1}, {0, -1, 1}, {0, 3, 1}, {0, 0, 0}, {0, 0, 10000}, {0, 0, -5}, {1, 0, 0}, {0, 2, 10000},
            {Integer.MAX_VALUE, 0, 1}, {0, Integer.MIN_VALUE, 1}};
        for (int[] b : bad) {
            Check.due("bad earns", x.earns(b[0], b[1], b[2]), LEAST);
        }
    }

    /** Promise 18: the lathe's speed, the shop's; the lowest. */
    private static void shop() {
        EdgeAndSpeed x = Check.laid(SPEEDS + "c0,3;");
        Check.due("lathe", x.shop(0, 1), 1);
        Check.due("50", x.shop(0, 50), 1);
        Check.due("90", x.shop(0, 90), 1);
        Check.due("91: 58200 by 100, 52800 by 91", x.shop(0, 91), 0);
        Check.due("9999", x.shop(0, 9999), 0);
        Check.due("none may be", x.shop(1, 1), -4);
        EdgeAndSpeed even = Check.laid("v10,50;v20,50;v20,50;p10,1,50,10;c0,0;");
        Check.due("the lower of even ones", even.shop(0, 1), 1);
        Check.due("the next bench waits for none", even.shop(0, 100), 0);
        EdgeAndSpeed loss = Check.laid("v10,50;v20,100;p10,1,50,0;c0,9;");
        Check.due("the least loss", loss.shop(0, 1), 0);
        int[][] bad = {{-1, 1}, {2, 1}, {0, 0}, {0, 10000}, {1, -1}, {Integer.MIN_VALUE, 1}, {0, Integer.MAX_VALUE}};
        for (int[] b : bad) {
            Check.due("bad shop", x.shop(b[0], b[1]), -1);
        }
    }

    /** Promise 19: the man's speed, what the shop earns then. */
    private static void pay() {
        EdgeAndSpeed x = Check.laid(SPEEDS + "c0,3;");
        Check.due("toil 59", x.pay(0, 10, 59, 0), 1);
        Check.due("toil 60: even, the lower", x.pay(0, 10, 60, 0), 0);
        Check.due("toil 61", x.pay(0, 10, 61, 0), 0);
        Check.due("toil 59, shop", x.pay(0, 10, 59, 1), 6336000 - 180000 - 7200000);
        Check.due("toil 60, shop", x.pay(0, 10, 60, 1), 3492000 - 180000 - 3600000);
        Check.due("no pay, no toil", x.pay(0, 0, 0, 0), 0);
        Check.due("no pay, no toil, shop", x.pay(0, 0, 0, 1), 3492000 - 180000);
        Check.due("no pay", x.pay(0, 0, 99, 0), 0);
        Check.due("no toil", x.pay(0, 99, 0, 0), 1);
        Check.due("no toil, shop", x.pay(0, 99, 0, 1), 6336000 - 180000 - 99 * 720000);
        EdgeAndSpeed y = new EdgeAndSpeed();
        Check.due("by the time with its change", y.pay(0, 5, 1, 1), 3070384 - 1730769);
    }

    /** Promise 19: none, and BAD, by what. */
    private static void payNot() {
        EdgeAndSpeed x = Check.laid(SPEEDS + "c0,3;");
        Check.due("none may be", x.pay(1, 5, 1, 0), -4);
        Check.due("none may be, shop", x.pay(1, 5, 1, 1), NONE);
        int[][] bad = {{-1, 5, 1}, {2, 5, 1}, {0, -1, 1}, {0, 100, 1}, {0, 5, -1}, {0, 5, 100}, {1, 100, 1}, {Integer.MAX_VALUE, 5, 1}};
        for (int[] b : bad) {
            Check.due("bad pay", x.pay(b[0], b[1], b[2], 0), -1);
            Check.due("bad pay, shop", x.pay(b[0], b[1], b[2], 1), LEAST);
        }
        Check.due("what 2", x.pay(0, 5, 1, 2), -1);
        Check.due("what -1", x.pay(0, 5, 1, -1), -1);
    }

    /** Promise 20: the pay by which the shop has most, the least. */
    private static void bestPay() {
        EdgeAndSpeed x = Check.laid(SPEEDS + "c0,3;");
        // he takes speed 1 if six times u is above e; then the shop has 6156000 less 720000 u, else 3312000 less 360000 u
        int[][] due = {{0, 1}, {1, 1}, {5, 1}, {6, 2}, {12, 3}, {17, 3}, {18, 0}, {30, 0}, {99, 0}};
        for (int[] d : due) {
            Check.due("toil " + d[0], x.bestPay(0, d[0]), d[1]);
        }
        Check.due("none may be", x.bestPay(1, 1), -4);
        int[][] bad = {{-1, 1}, {2, 1}, {0, -1}, {0, 100}, {Integer.MIN_VALUE, 1}, {0, Integer.MAX_VALUE}};
        for (int[] b : bad) {
            Check.due("bad best pay", x.bestPay(b[0], b[1]), -1);
        }
        // he takes speed 1 for more than 98 pence (98 inches), for more than 99 (99 inches)
        Check.due("99 pence", Check.laid("v1,0;v2,0;p98,1,100,999;").bestPay(0, 60), 99);
        Check.due("100 pence", Check.laid("v1,0;v2,0;p99,1,100,999;").bestPay(0, 60), 0);
        Check.due("98 pence", Check.laid("v1,0;v2,0;p99,1,100,999;").bestPay(0, 59), 98);
        Check.due("as much by 0 and by 4", Check.laid("v10,0;v20,0;p10,1,100,8;").bestPay(0, 18), 0);
        EdgeAndSpeed all = Check.laid("v1,0;v99,0;p99,1,100,999;h0;");
        // 360000 u less 3636 u above 98 times 6000 times 9: from 15 pence on he takes the quick one
        Check.due("much worth, toil 9", all.bestPay(0, 9), 15);
        Check.due("much worth, toil 99", all.bestPay(0, 99), 0);
        Check.due("much worth, little toil", all.bestPay(0, 0), 1);
    }
}
