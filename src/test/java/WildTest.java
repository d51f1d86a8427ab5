import java.lang.management.ManagementFactory;
import java.util.ArrayList;
import java.util.List;
import java.util.Random;

/** Any calls with any numbers: nothing is thrown, the same calls answer the same, what is refused changes nothing. */
final class WildTest {
    private static final int CALLS = 512;
    private static final int[] EDGES = {Integer.MIN_VALUE, Integer.MIN_VALUE + 1, -101, -5, -4, -3, -2, -1, 0, 1, 2, 3, 4, 5, 6, 7,
        8, 9, 10, 30, 31, 47, 48, 49, 50, 99, 100, 101, 999, 9999, 10000, Integer.MAX_VALUE - 1, Integer.MAX_VALUE};
    private static final String[] ITEMS = {"v10,20;", "v99,999;", "v1,0;", "p20,3,60,40;", "p99,8,0,999;", "p1,1,100,0;", "b0,1;",
        "b50,99;", "b100,100;", "c0,0;", "c99,99;", "h0;", "h999;", "k1,1;", "k8,999;", "k3,60;", "t100,10;", "t400,5;t1,5;",
        "t1,9;", "x;", "v1,1"};

    private WildTest() {
    }

    public static void main(String[] args) {
        for (int seed = 0; seed < 300; seed++) {
            same(seed);
        }
        for (int seed = 1000; seed < 1100; seed++) {
            refused(seed);
        }
        room();
        Check.end();
    }

    private static int any(Random dice) {
        int kind = dice.nextInt(10);
        return kind == 0 ? dice.nextInt() : kind < 3 ? EDGES[dice.nextInt(EDGES.length)] : dice.nextInt(kind < 9 ? 4 : 101);
    }

    /** One call by the dice. */
    private static long call(EdgeAndSpeed x, Random d, int which) {
        switch (which) {
            case 0: return x.write(any(d), d.nextLong());
            case 1: return x.wipe();
            case 2: return x.fault();
            case 3: return x.lay();
            case 4: return x.pass(any(d), any(d), any(d), any(d), any(d));
            case 5: return x.breaks(any(d));
            case 6: return x.hand(any(d), any(d));
            case 7: return x.does(any(d), any(d), any(d), any(d), any(d));
            case 8: return x.value(any(d), any(d), any(d), any(d), any(d));
            case 9: return x.mean(any(d), any(d), any(d), any(d), any(d), any(d));
            case 10: return x.judge(any(d), any(d));
            case 11: return x.parted(any(d), any(d), any(d), any(d));
            case 12: return x.guess(any(d), any(d));
            case 13: return x.blind(any(d));
            case 14: return x.two(any(d), any(d), any(d), any(d), any(d));
            case 15: return x.earns(any(d), any(d), any(d));
            case 16: return x.shop(any(d), any(d));
            case 17: return x.pay(any(d), any(d), any(d), any(d));
            case 18: return x.bestPay(any(d), any(d));
            case 19: return x.log(any(d), any(d), any(d), any(d));
            case 20: return x.noLog();
            case 21: return x.off(any(d), any(d), any(d));
            case 22: return x.plainest(any(d));
            case 23: return x.run(any(d), any(d), any(d), any(d));
            case 24: return x.keep();
            case 25: return x.back();
            case 26: return x.count(any(d));
            default: return Check.write(x, ITEMS[d.nextInt(ITEMS.length)]);
        }
    }

    private static List<Long> calls(int seed) {
        Random dice = new Random(seed);
        EdgeAndSpeed x = new EdgeAndSpeed();
        List<Long> answers = new ArrayList<>();
        for (int i = 0; i < CALLS; i++) {
            int which = dice.nextInt(34);
            try {
                answers.add(call(x, dice, which));
            } catch (RuntimeException | Error e) {
                Check.holds("seed " + seed + " call " + i + " of kind " + which + " threw " + e, false);
            }
        }
        return answers;
    }

    private static void same(int seed) {
        Check.holds("the same calls of seed " + seed + " answer the same", calls(seed).equals(calls(seed)));
    }

    /** What can be seen of an object without changing it. */
    private static List<Long> seen(EdgeAndSpeed x) {
        List<Long> all = new ArrayList<>();
        for (int what = 0; what < 6; what++) {
            all.add((long) x.count(what));
        }
        all.add((long) x.fault());
        for (int p = 0; p < x.count(1); p++) {
            for (int hand = 0; hand < 6; hand++) {
                all.add(x.value(hand, 0, p, 1, 37));
            }
            all.add(x.earns(p, 0, 1));
        }
        for (int a = 0; a <= 100; a += 10) {
            all.add((long) x.off(0, a, x.count(0) - 1));
            all.add((long) x.breaks(a));
        }
        return all;
    }

    /** Calls that only look leave everything; those that change leave it, when they refuse. */
    private static void refused(int seed) {
        Random dice = new Random(seed);
        EdgeAndSpeed x = new EdgeAndSpeed();
        for (int i = 0; i < 60; i++) {
            int which = dice.nextInt(34);
            boolean changes = which < 4 && which != 2 || which == 6 || which == 19 || which == 20 || which > 23 && which != 26;
            List<Long> was = seen(x);
            long answer = call(x, dice, which);
            if (!changes || answer < 0 && which < 27) {
                Check.holds("seed " + seed + " call " + i + " of kind " + which + " changes nothing", was.equals(seen(x)));
            }
        }
    }

    /** All rows are made by the constructor: the dearest calls make next to nothing. */
    private static void room() {
        EdgeAndSpeed x = Check.laid("v1,1;v2,2;v3,3;v4,4;v5,5;v6,6;" + "p99,8,100,999;".repeat(8) + "b0,1;t50,1;t100,4;t150,3;t400,2;");
        com.sun.management.ThreadMXBean threads = (com.sun.management.ThreadMXBean) ManagementFactory.getThreadMXBean();
        long id = Thread.currentThread().getId();
        long sum = 0;
        long before = threads.getThreadAllocatedBytes(id);
        for (int i = 0; i < 25; i++) {
            sum += x.lay() + x.fault() + x.value(0, i % 4, 0, 8, 0) + x.judge(4, i % 4) + x.blind(3) + x.two(99, 1, 99, 2, 0);
            sum += x.parted(0, 0, 0, 0) + x.plainest(0) + x.bestPay(0, 1) + x.run(0, 1, i, 0) + x.mean(1, 0, 0, 8, 0, 0);
            sum += x.log(0, 1, 0, 0) + x.keep() + x.back() + x.guess(0, 3) + x.off(0, 1, 0);
        }
        long made = threads.getThreadAllocatedBytes(id) - before;
        Check.holds("the calls made " + made + " bytes, " + sum, made < 100000);
    }
}
