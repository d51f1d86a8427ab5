/** Promises 21 to 28: log, noLog, off, plainest, run, keep, back, count. */
final class LogsTest {
    private static final String SPEEDS = "v10,10;v20,20;v30,30;p10,3,100,10;p10,1,100,10;k2,50;";

    private LogsTest() {
    }

    public static void main(String[] args) {
        log();
        logBad();
        noLog();
        off();
        plainest();
        plainestOfNone();
        run();
        runChanges();
        runSpoilt();
        runBad();
        keep();
        keepOfLogs();
        count();
        Check.end();
    }

    /** Promise 21: twenty rows at most. */
    private static void log() {
        EdgeAndSpeed x = Check.laid(SPEEDS);
        for (int i = 1; i <= 20; i++) {
            Check.due("row " + i, x.log(0, 3, 5 * i, i % 2 == 0 ? 1 : 8), i);
        }
        Check.due("row 21", x.log(0, 3, 0, 1), -3);
        Check.due("BAD ahead of FULL", x.log(0, 3, 0, 2), -1);
        Check.due("rows", x.count(4), 20);
        Check.due("none was put", x.off(0, 100, 0), 10);
    }

    /** Promise 21: a state, a pass that can be done there. */
    private static void logBad() {
        EdgeAndSpeed x = Check.laid(SPEEDS);
        int[][] bad = {{-1, 1, 0, 0}, {2, 1, 0, 0}, {0, 0, 0, 0}, {0, 4, 0, 0}, {1, 2, 0, 0}, {0, 1, -1, 0}, {0, 1, 101, 0},
            {0, 1, 0, -1}, {0, 1, 0, 1}, {0, 3, 0, 2}, {0, 3, 0, 17}, {0, 3, 0, 24}, {0, 3, 0, 47}, {0, 3, 5, 48}, {0, 3, 0, 49},
            {0, 3, 0, Integer.MIN_VALUE}, {0, 3, 0, Integer.MAX_VALUE}, {Integer.MAX_VALUE, 1, 0, 0}, {1, Integer.MIN_VALUE, 0, 0}};
        for (int[] b : bad) {
            Check.due("bad log", x.log(b[0], b[1], b[2], b[3]), -1);
        }
        Check.due("none was put", x.count(4), 0);
        int[][] good = {{0, 3, 0, 0}, {0, 3, 100, 1}, {0, 2, 7, 9}, {0, 1, 0, 16}, {1, 1, 100, 8}};
        for (int i = 0; i < good.length; i++) {
            int[] g = good[i];
            Check.due("good log", x.log(g[0], g[1], g[2], g[3]), i + 1);
        }
    }

    /** Promise 22. */
    private static void noLog() {
        EdgeAndSpeed x = Check.laid(SPEEDS);
        Check.due("had none", x.noLog(), 0);
        x.log(0, 3, 0, 1);
        x.log(0, 3, 9, 8);
        Check.due("had two", x.noLog(), 2);
        Check.due("has none", x.count(4), 0);
        Check.due("off none", x.off(2, 0, 2), 0);
        Check.due("had none again", x.noLog(), 0);
        Check.due("the first row", x.log(0, 3, 9, 16), 1);
        Check.due("off one", x.off(0, 0, 0), 1);
    }

    /** Promise 23: below a speed i, else j. */
    private static void off() {
        EdgeAndSpeed x = Check.laid(SPEEDS);
        x.log(0, 3, 10, 16);
        x.log(0, 3, 20, 9);
        x.log(0, 3, 100, 0);
        int[][] due = {{2, 10, 1, 2}, {2, 11, 1, 1}, {2, 20, 1, 1}, {2, 21, 1, 2}, {2, 0, 2, 2}, {2, 100, 0, 1}, {1, 100, 0, 1},
            {1, 20, 1, 2}, {0, 0, 0, 2}, {0, 100, 2, 3}, {1, 11, 0, 2}, {2, 11, 0, 1}};
        for (int[] d : due) {
            Check.due("off " + d[0] + " " + d[1] + " " + d[2], x.off(d[0], d[1], d[2]), d[3]);
        }
        int[][] bad = {{-1, 0, 0}, {3, 0, 0}, {0, -1, 0}, {0, 101, 0}, {0, 0, -1}, {0, 0, 3}, {Integer.MIN_VALUE, 0, 0},
            {0, Integer.MAX_VALUE, 0}, {0, 0, Integer.MAX_VALUE}};
        for (int[] b : bad) {
            Check.due("bad off", x.off(b[0], b[1], b[2]), -1);
        }
    }

    private static void plainest(int[][] rows, int[] due) {
        EdgeAndSpeed x = Check.laid(SPEEDS);
        StringBuilder told = new StringBuilder("log");
        for (int[] row : rows) {
            x.log(1, 1, row[0], 8 * row[1]);
            told.append(' ').append(row[0]).append(':').append(row[1]);
        }
        for (int what = 0; what < 4; what++) {
            Check.due(told + " plainest " + what, x.plainest(what), due[what]);
        }
    }

    /** Promise 24: fewest off, i equal j ahead of others, then i, a, j the least. */
    private static void plainest() {
        plainest(new int[][] {{10, 2}, {20, 2}, {60, 1}}, new int[] {2, 21, 1, 0});
        plainest(new int[][] {{10, 2}, {20, 1}}, new int[] {2, 11, 1, 0});
        plainest(new int[][] {{10, 1}, {10, 2}}, new int[] {1, 0, 1, 1});
        plainest(new int[][] {{10, 2}, {10, 1}, {50, 0}, {50, 2}}, new int[] {2, 0, 2, 2});
        plainest(new int[][] {{100, 1}, {99, 2}}, new int[] {2, 100, 1, 0});
        plainest(new int[][] {{0, 1}, {5, 2}}, new int[] {1, 1, 2, 0});
        plainest(new int[][] {{0, 2}, {100, 2}}, new int[] {2, 0, 2, 0});
        plainest(new int[][] {{7, 2}, {7, 2}, {9, 0}, {30, 1}}, new int[] {2, 8, 0, 1});
        plainest(new int[][] {{7, 2}, {7, 2}, {9, 1}, {30, 0}}, new int[] {2, 8, 0, 1});
        plainest(new int[][] {{1, 0}, {2, 1}, {3, 2}}, new int[] {0, 2, 1, 1});
        plainest(new int[][] {{3, 0}, {2, 1}, {1, 2}, {3, 0}}, new int[] {1, 3, 0, 1});
    }

    private static void plainestOfNone() {
        plainest(new int[0][], new int[] {0, 0, 0, 0});
        EdgeAndSpeed x = new EdgeAndSpeed();
        x.log(0, 1, 50, 0);
        Check.due("one speed", x.plainest(0), 0);
        Check.due("one speed, off", x.plainest(3), 0);
        int[] bad = {-1, 4, Integer.MIN_VALUE, Integer.MAX_VALUE};
        for (int b : bad) {
            Check.due("bad plainest", x.plainest(b), -1);
        }
    }

    private static void run(String what, EdgeAndSpeed x, int[] h, long[] due) {
        for (int i = 0; i < 5; i++) {
            Check.due(what + " run " + i, x.run(h[0], h[1], h[2], i), due[i]);
        }
    }

    /** Promise 25: by z 0 the draws are 1, 87, 99, 79; by z 5 the first is 28. */
    private static void run() {
        String bench = "v10,0;" + "p10,1,100,10;".repeat(4);
        run("broken, broken, done, broken", Check.laid(bench + "b0,88;"), new int[] {1, 0, 0}, new long[] {1600, 258000, 1, 3, 3});
        run("a draw is not below itself", Check.laid(bench + "b0,1;"), new int[] {1, 0, 0}, new long[] {400, 24000, 4, 0, 0});
        run("1 is below 2", Check.laid(bench + "b0,2;"), new int[] {1, 0, 0}, new long[] {800, 48000 + 54000, 3, 1, 1});
        run("87 is not below 87", Check.laid(bench + "b0,87;"), new int[] {1, 0, 0}, new long[] {1200, 72000 + 108000, 2, 2, 2});
        run("all broken", Check.laid(bench + "b0,100;"), new int[] {1, 0, 0}, new long[] {2000, 120000 + 216000, 0, 4, 4});
        String one = "v10,0;p10,1,100,10;c3,2;h100;";
        run("28 is not below 28", Check.laid(one + "b0,28;"), new int[] {1, 0, 5}, new long[] {100, 10000, 1, 0, 0});
        run("28 is below 29", Check.laid(one + "b0,29;"), new int[] {1, 0, 5}, new long[] {400, 52000, 0, 1, 1});
    }

    /** Promise 25: changes take no draw; broken for sure; by the steel. */
    private static void runChanges() {
        EdgeAndSpeed x = Check.laid("v10,600;p10,1,100,10;p10,1,100,10;p10,1,100,10;t100,4;t200,6;");
        // wears 60: the second piece breaks it for sure
        run("60 and 60", x, new int[] {1, 0, 0}, new long[] {700, 42000 + 54000, 2, 1, 1});
        run("120", x, new int[] {1, 1, 9999}, new long[] {1500, 90000 + 162000, 0, 3, 3});
        x.hand(1, 59);
        run("changes twice", x, new int[] {1, 0, 0}, new long[] {1100, 66000 + 108000, 3, 0, 2});
        run("best changes twice, leaves nothing", Check.laid("v10,600;p10,1,100,90;p10,1,100,90;"), new int[] {0, 0, 0},
                new long[] {600, 36000 + 54000, 2, 0, 1});
        // draws 1, 87: had the change taken one, the second pass had 99
        EdgeAndSpeed y = Check.laid("v10,100;p10,1,100,10;p10,1,100,10;b0,1;b5,88;");
        y.hand(1, 0);
        run("change, then 87 against 1", y, new int[] {1, 0, 0}, new long[] {600, 36000 + 54000, 2, 0, 1});
        y.hand(1, 10);
        run("87 against 88", y, new int[] {1, 0, 0}, new long[] {600, 36000 + 54000, 1, 1, 1});
        EdgeAndSpeed z = Check.laid("v10,100;p10,2,100,10;p10,1,0,10;k1,999;b0,1;b10,86;b20,0;");
        // passes 1, 87; a change; then draw 99 at wear 0, not 79
        run("three draws", z, new int[] {1, 0, 0}, new long[] {700, 42000 + 54000, 2, 0, 1});
    }

    /** Promise 25: spoilt are those left, those too coarse, too. */
    private static void runSpoilt() {
        run("left", Check.laid("v10,10;p10,1,100,0;p10,1,100,0;"), new int[] {0, 0, 7}, new long[] {0, 0, 0, 2, 0});
        run("too coarse", Check.laid("v10,100;p10,1,9,10;p10,1,9,10;p10,1,20,10;"), new int[] {2, 0, 7},
                new long[] {300, 18000, 2, 1, 0});
        run("none may be", Check.laid("v10,100;p10,1,9,10;k8,9;"), new int[] {1, 0, 7}, new long[] {0, 0, 0, 1, 0});
        run("new object", new EdgeAndSpeed(), new int[] {5, 0, 9999}, new long[] {100, 6000, 1, 0, 0});
    }

    private static void runBad() {
        EdgeAndSpeed x = Check.laid(SPEEDS);
        int[][] bad = {{-1, 0, 0, 0}, {6, 0, 0, 0}, {0, -1, 0, 0}, {0, 1, 0, 0}, {0, 0, -1, 0}, {0, 0, 10000, 0}, {0, 0, 0, -1},
            {0, 0, 0, 5}, {Integer.MAX_VALUE, 0, 0, 0}, {0, 0, Integer.MIN_VALUE, 0}};
        for (int[] b : bad) {
            Check.due("bad run", x.run(b[0], b[1], b[2], b[3]), -1);
        }
    }

    /** Promises 26 and 27: two at most, the last one first. */
    private static void keep() {
        EdgeAndSpeed x = Check.laid(SPEEDS);
        Check.due("back of none", x.back(), -2);
        set(x, 1, 11, 1);
        Check.due("keep", x.keep(), 1);
        set(x, 2, 22, 2);
        Check.due("keep", x.keep(), 2);
        set(x, 0, 33, 3);
        Check.due("keep", x.keep(), -3);
        Check.due("kept", x.count(5), 2);
        has(x, 0, 33, 3);
        Check.due("back", x.back(), 1);
        has(x, 2, 22, 2);
        Check.due("keep again", x.keep(), 2);
        set(x, 0, 44, 4);
        Check.due("back", x.back(), 1);
        Check.due("back", x.back(), 0);
        has(x, 1, 11, 1);
        Check.due("back", x.back(), -2);
        has(x, 1, 11, 1);
    }

    private static void set(EdgeAndSpeed x, int speed, int limit, int n) {
        x.hand(0, speed);
        x.hand(1, limit);
        x.hand(2, n);
    }

    /** The hands' numbers, which stay as they are. */
    private static void has(EdgeAndSpeed x, int speed, int limit, int n) {
        Check.due("speed", x.hand(0, speed), speed);
        Check.due("limit", x.hand(1, limit), limit);
        Check.due("n", x.hand(2, n), n);
    }

    /** Promises 26 and 27: the log, too, each row of it; not the text. */
    private static void keepOfLogs() {
        EdgeAndSpeed x = Check.laid(SPEEDS);
        x.log(0, 3, 10, 16);
        x.log(0, 3, 20, 8);
        x.keep();
        x.noLog();
        x.log(0, 3, 90, 0);
        x.log(0, 3, 90, 0);
        x.log(0, 3, 90, 0);
        x.keep();
        x.noLog();
        x.wipe();
        Check.write(x, "v1,1;");
        Check.due("back", x.back(), 1);
        Check.due("three rows", x.count(4), 3);
        Check.due("all of speed 0", x.off(0, 0, 0), 0);
        x.log(0, 3, 90, 8);
        Check.due("back", x.back(), 0);
        Check.due("two rows", x.count(4), 2);
        Check.due("as they were", x.off(2, 20, 1), 0);
        Check.due("their wear", x.off(2, 10, 1), 1);
        Check.due("the text stays", x.count(3), 5);
        Check.due("a row more", x.log(0, 3, 90, 8), 3);
    }

    /** Promise 28. */
    private static void count() {
        EdgeAndSpeed x = Check.laid(SPEEDS + "t1,5;t2,4;t3,1;p1,1,1,1;");
        x.log(0, 3, 10, 16);
        x.log(0, 3, 10, 16);
        x.keep();
        int[] due = {3, 3, 3, SPEEDS.length() + 24, 2, 1};
        for (int what = 0; what < 6; what++) {
            Check.due("count " + what, x.count(what), due[what]);
        }
        int[] bad = {-1, 6, Integer.MIN_VALUE, Integer.MAX_VALUE};
        for (int b : bad) {
            Check.due("bad count", x.count(b), -1);
        }
    }
}
