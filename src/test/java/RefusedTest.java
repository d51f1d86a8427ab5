import java.util.ArrayList;
import java.util.List;
import java.util.function.ToLongFunction;

/** "BAD, NO, NONE, FULL: nothing changes then": each refused call leaves an object as a twin of it that was not asked. */
final class RefusedTest {
    private static final long LEAST = Long.MIN_VALUE;
    private static final String BENCH = "v10,40;v20,90;v30,400;p20,3,60,40;p35,2,90,25;p10,8,5,300;b50,2;b80,15;c4,9;h80;k3,60;t100,6;t140,4;";

    private record Refused(String told, long due, ToLongFunction<EdgeAndSpeed> call) {
    }

    private RefusedTest() {
    }

    public static void main(String[] args) {
        for (Refused r : badCalls()) {
            for (int kind = 0; kind < 4; kind++) {
                leaves(r, kind);
            }
        }
        for (Refused r : fullCalls()) {
            leaves(r, 3);
        }
        for (Refused r : noCalls()) {
            leaves(r, 0);
            leaves(r, 1);
        }
        for (Refused r : noneCalls()) {
            leaves(r, 2);
            leaves(r, 3);
        }
        looksAlone();
        Check.end();
    }

    /** 0: new; 1: a bench, nothing kept, a text that cannot be laid; 2: rows and one kept; 3: all is full. */
    private static EdgeAndSpeed made(int kind) {
        if (kind == 0) {
            return new EdgeAndSpeed();
        }
        EdgeAndSpeed x = Check.laid(BENCH);
        Check.write(x, "x");
        x.hand(0, 1);
        x.hand(1, 33);
        x.hand(2, 3);
        x.log(0, 3, 20, 8);
        x.log(1, 1, 70, 16);
        if (kind > 1) {
            x.keep();
            x.hand(0, 2);
            x.hand(1, 12);
            x.log(0, 1, 40, 0);
        }
        if (kind > 2) {
            x.keep();
            x.hand(2, 1);
            for (int i = 0; i < 20; i++) {
                x.log(0, 1, 5 * i, 8 * (i % 3));
            }
            Check.write(x, "x".repeat(500 - x.count(3)));
        }
        return x;
    }

    private static void leaves(Refused r, int kind) {
        EdgeAndSpeed x = made(kind);
        Check.due(r.told, r.call.applyAsLong(x), r.due);
        Check.due(r.told + " again", r.call.applyAsLong(x), r.due);
        Seen.same(r.told + " leaves kind " + kind, x, made(kind));
    }

    private static void add(List<Refused> all, String told, long due, ToLongFunction<EdgeAndSpeed> call) {
        all.add(new Refused(told, due, call));
    }

    private static List<Refused> badCalls() {
        List<Refused> all = new ArrayList<>();
        for (int b : new int[] {-1, 400, Integer.MIN_VALUE, Integer.MAX_VALUE}) {
            add(all, "write " + b, -1, x -> x.write(b, 0x7631L));
            add(all, "breaks " + b, -1, x -> x.breaks(b));
            add(all, "hand " + b, -1, x -> x.hand(b, 0));
            add(all, "pass " + b, -1, x -> x.pass(0, 0, 1, 0, b));
            for (int what = 0; what < 3; what++) {
                int w = what;
                add(all, "hand " + w + " to " + b, -1, x -> x.hand(w, b));
            }
            states(all, b);
            others(all, b);
        }
        add(all, "write 0", -1, x -> x.write(0, 1L));
        add(all, "write 9", -1, x -> x.write(9, 1L));
        add(all, "hand n 0", -1, x -> x.hand(2, 0));
        add(all, "hand n 9", -1, x -> x.hand(2, 9));
        add(all, "hand LIMIT 101", -1, x -> x.hand(1, 101));
        add(all, "log 48", -1, x -> x.log(0, 1, 50, 48));
        add(all, "log 49", -1, x -> x.log(0, 1, 50, 49));
        add(all, "log deeper than left", -1, x -> x.log(0, 1, 50, 1));
        return all;
    }

    private static void states(List<Refused> all, int b) {
        add(all, "does hand " + b, -1, x -> x.does(b, 0, 0, 1, 0));
        add(all, "does left " + b, -1, x -> x.does(0, 0, 0, b, 0));
        add(all, "value steel " + b, LEAST, x -> x.value(0, b, 0, 1, 0));
        add(all, "value wear " + b, LEAST, x -> x.value(0, 0, 0, 1, b));
        add(all, "mean piece " + b, -1, x -> x.mean(0, 0, b, 1, 0, 0));
        add(all, "mean " + b, -1, x -> x.mean(0, 0, 0, 1, 0, b));
        add(all, "judge hand " + b, -1, x -> x.judge(b, 0));
        add(all, "judge steel " + b, -1, x -> x.judge(0, b));
        add(all, "parted piece " + b, -1, x -> x.parted(b, 0, 0, 0));
        add(all, "parted " + b, -1, x -> x.parted(0, 0, 0, b));
        add(all, "log piece " + b, -1, x -> x.log(b, 1, 0, 0));
        add(all, "log left " + b, -1, x -> x.log(0, b, 0, 0));
        add(all, "log wear " + b, -1, x -> x.log(0, 1, b, 0));
        add(all, "log act " + b, -1, x -> x.log(0, 1, 0, b));
    }

    private static void others(List<Refused> all, int b) {
        add(all, "guess " + b, LEAST, x -> x.guess(b, 0));
        add(all, "guess 0 " + b, LEAST, x -> x.guess(0, b));
        add(all, "blind " + b, LEAST, x -> x.blind(b));
        add(all, "two " + b, -1, x -> x.two(b, 1, 1, 1, 0));
        add(all, "two 1 1 1 1 " + b, -1, x -> x.two(1, 1, 1, 1, b));
        add(all, "earns " + b, LEAST, x -> x.earns(b, 0, 1));
        add(all, "shop " + b, -1, x -> x.shop(b, 1));
        add(all, "pay " + b, -1, x -> x.pay(0, b, 1, 0));
        add(all, "pay e " + b, LEAST, x -> x.pay(0, 1, b, 1));
        add(all, "best pay " + b, -1, x -> x.bestPay(0, b));
        add(all, "off " + b, -1, x -> x.off(b, 0, 0));
        add(all, "off a " + b, -1, x -> x.off(0, b, 0));
        add(all, "plainest " + b, -1, x -> x.plainest(b));
        add(all, "run " + b, -1, x -> x.run(b, 0, 0, 0));
        add(all, "run what " + b, -1, x -> x.run(0, 0, 0, b));
        add(all, "count " + b, -1, x -> x.count(b));
    }

    /** What is FULL, when all is; BAD ahead of it. */
    private static List<Refused> fullCalls() {
        List<Refused> all = new ArrayList<>();
        for (int n = 1; n <= 8; n++) {
            int bytes = n;
            add(all, "write " + n, -3, x -> x.write(bytes, 0x7631L));
        }
        add(all, "log", -3, x -> x.log(0, 1, 0, 16));
        add(all, "keep", -3, EdgeAndSpeed::keep);
        add(all, "write 9 when full", -1, x -> x.write(9, 0x7631L));
        add(all, "log a bad one when full", -1, x -> x.log(0, 1, 0, 48));
        add(all, "lay x", -2, EdgeAndSpeed::lay);
        return all;
    }

    /** NO: nothing kept, nothing to lay. */
    private static List<Refused> noCalls() {
        List<Refused> all = new ArrayList<>();
        add(all, "back", -2, EdgeAndSpeed::back);
        add(all, "lay", -2, EdgeAndSpeed::lay);
        return all;
    }

    /** NONE, and NO of what cannot be: answers, behind which all is as it was. */
    private static List<Refused> noneCalls() {
        List<Refused> all = new ArrayList<>();
        add(all, "judge of the best", -4, x -> x.judge(0, 0));
        add(all, "parted at 100", -4, x -> x.parted(0, 0, 100, 0));
        add(all, "shop of eight steps", -4, x -> x.shop(2, 1));
        add(all, "pay for eight steps", -4, x -> x.pay(2, 1, 1, 0));
        add(all, "pay for eight steps, shop", LEAST + 4, x -> x.pay(2, 1, 1, 1));
        add(all, "best pay for eight steps", -4, x -> x.bestPay(2, 1));
        add(all, "earns of eight steps", LEAST + 2, x -> x.earns(2, 0, 1));
        return all;
    }

    /** Calls that only look leave all as it is, too: of the full object, in a row. */
    private static void looksAlone() {
        EdgeAndSpeed x = made(3);
        for (int round = 0; round < 2; round++) {
            for (int hand = 0; hand < 6; hand++) {
                x.does(hand, 1, 2, 8, 20);
                x.value(hand, 1, 2, 8, 20);
                x.mean(hand, 1, 1, 2, 20, 1);
                x.judge(hand, 1);
                x.run(hand, 1, 9999, 4);
            }
            x.fault();
            x.guess(1, 0);
            x.blind(3);
            x.parted(2, 1, 0, 1);
            x.two(99, 1, 99, 2, 1);
            x.earns(0, 2, 9999);
            x.shop(0, 1);
            x.pay(0, 99, 9, 1);
            x.bestPay(0, 9);
            x.off(1, 50, 2);
            x.plainest(1);
        }
        Seen.same("what only looks", x, made(3));
    }
}
