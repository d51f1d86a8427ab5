import java.util.ArrayList;
import java.util.List;

/** All that can be seen of an object, told as numbers, to hold two objects against each other. */
final class Seen {
    private Seen() {
    }

    /** Whether two objects are as one: what they answer now, and what stands behind each that is kept. */
    static void same(String what, EdgeAndSpeed x, EdgeAndSpeed y) {
        List<Long> left = of(x);
        List<Long> right = of(y);
        Check.holds(what + ": " + left + " against " + right, left.equals(right));
    }

    private static List<Long> of(EdgeAndSpeed x) {
        List<Long> all = new ArrayList<>();
        bench(x, all);
        habits(x, all);
        for (int i = 0; i < 3; i++) {
            all.add((long) x.back());
            habits(x, all);
        }
        all.add((long) x.wipe());
        return all;
    }

    private static void bench(EdgeAndSpeed x, List<Long> all) {
        for (int what = 0; what < 6; what++) {
            all.add((long) x.count(what));
        }
        all.add((long) x.fault());
        for (int wear = 0; wear <= 100; wear += 25) {
            all.add((long) x.breaks(wear));
        }
        int speed = x.count(0) - 1;
        int piece = x.count(1) - 1;
        int steel = x.count(2) - 1;
        for (int what = 0; what < 3; what++) {
            all.add((long) x.pass(piece, speed, 2, steel, what));
            all.add(x.parted(piece, steel, 0, what));
        }
        all.add(x.guess(steel, 0));
        all.add(x.blind(1));
        all.add(x.earns(piece, speed, 1));
        all.add((long) x.shop(piece, 90));
        all.add(x.pay(piece, 7, 1, 1));
        all.add((long) x.bestPay(piece, 1));
        all.add((long) x.two(4, 2, 5, 3, 0));
        for (int hand = 0; hand < 6; hand++) {
            all.add((long) x.does(hand, steel, piece, 1, 35));
            all.add(x.value(hand, 0, 0, 1, 35));
            all.add(x.mean(hand, 0, 0, 1, 0, 1));
        }
    }

    /** The hands' numbers (each put back as it was), and the rows of the log by what rules are off. */
    private static void habits(EdgeAndSpeed x, List<Long> all) {
        int[] any = {0, 0, 1};
        for (int what = 0; what < 3; what++) {
            int was = x.hand(what, any[what]);
            x.hand(what, was);
            all.add((long) was);
        }
        int last = x.count(0) - 1;
        all.add((long) x.count(4));
        all.add((long) x.count(5));
        for (int a = 0; a <= 100; a += 10) {
            all.add((long) x.off(0, a, last));
            all.add((long) x.off(last, a, 0));
        }
        for (int what = 0; what < 4; what++) {
            all.add((long) x.plainest(what));
        }
        for (int hand = 1; hand < 4; hand++) {
            all.add((long) x.judge(hand, 0));
            all.add(x.run(hand, 0, 7, 1));
        }
    }
}
