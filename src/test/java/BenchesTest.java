/** Promises 1 to 7: a new object, write, wipe, fault, lay, pass, breaks. */
final class BenchesTest {
    private BenchesTest() {
    }

    public static void main(String[] args) {
        newObject();
        write();
        wipe();
        fault();
        faultOfNumbers();
        faultOfMany();
        lay();
        layAsAtFirst();
        layRefused();
        pass();
        passTooDeep();
        breaks();
        Check.end();
    }

    /** Promise 1: the bench v10,10;p10,1,100,10; is laid, THE TEXT is empty, the hands have 0, 100, 8. */
    private static void newObject() {
        EdgeAndSpeed x = new EdgeAndSpeed();
        long[] counts = {1, 1, 1, 0, 0, 0};
        for (int what = 0; what < 6; what++) {
            Check.due("new count " + what, x.count(what), counts[what]);
        }
        Check.due("new takes", x.pass(0, 0, 1, 0, 0), 100);
        Check.due("new wears", x.pass(0, 0, 3, 0, 1), 3);
        Check.due("new breaks", x.breaks(100), 0);
        Check.due("new value", x.value(0, 0, 0, 1, 0), 54000);
        Check.due("new fine 100, change 4 minutes and 9 pence", x.value(1, 0, 0, 1, 100), -24000 - 54000 - 6000);
        Check.due("new change", x.run(1, 0, 0, 4), 0);
        Check.due("new limit", x.hand(1, 0), 100);
        Check.due("new speed", x.hand(0, 0), 0);
        Check.due("new n", x.hand(2, 8), 8);
        Check.due("new back", x.back(), -2);
        Check.due("new off", x.off(0, 0, 0), 0);
        Check.due("new fault", x.fault(), -4);
        Check.due("new lay", x.lay(), -2);
        Check.due("BAD", EdgeAndSpeed.BAD, -1);
        Check.due("NO", EdgeAndSpeed.NO, -2);
        Check.due("FULL", EdgeAndSpeed.FULL, -3);
        Check.due("NONE", EdgeAndSpeed.NONE, -4);
    }

    /** Promise 2: the low n bytes, the highest first; BAD; FULL beyond 500. */
    private static void write() {
        EdgeAndSpeed x = new EdgeAndSpeed();
        Check.due("write 0", x.write(0, 0x7631L), -1);
        Check.due("write 9", x.write(9, 0x7631L), -1);
        Check.due("write -1", x.write(-1, 0x7631L), -1);
        Check.due("write least", x.write(Integer.MIN_VALUE, 0L), -1);
        Check.due("write most", x.write(Integer.MAX_VALUE, 0L), -1);
        Check.due("nothing written", x.count(3), 0);
        Check.due("write v1,", x.write(3, 0x76312cL), 3);
        Check.due("write 1;, what stands above it is left out", x.write(2, 0x7676767676313bL), 5);
        Check.due("no fault in v1,1;", x.fault(), -4);
        Check.due("write ff", x.write(1, -1L), 6);
        Check.due("fault at ff", x.fault(), 5);
        Check.due("wipe", x.wipe(), 6);
        for (int i = 1; i <= 62; i++) {
            Check.due("write eight", x.write(8, -1L), 8 * i);
        }
        Check.due("write eight more", x.write(8, 0L), -3);
        Check.due("write five", x.write(5, 0L), -3);
        Check.due("nothing written", x.count(3), 496);
        Check.due("BAD ahead of FULL", x.write(9, 0L), -1);
        Check.due("write three", x.write(3, 0L), 499);
        Check.due("write two", x.write(2, 0L), -3);
        Check.due("write one", x.write(1, 0L), 500);
        Check.due("write one more", x.write(1, 0L), -3);
        Check.due("full", x.count(3), 500);
        Check.due("BAD when full", x.write(0, 0L), -1);
    }

    /** Promise 3: THE TEXT is empty, what is laid stays. */
    private static void wipe() {
        EdgeAndSpeed x = new EdgeAndSpeed();
        Check.due("wipe nothing", x.wipe(), 0);
        Check.write(x, "v7,7;p7,2,7,7;p7,1,7,7;");
        Check.due("lay", x.lay(), 2);
        Check.due("lay leaves the text", x.count(3), 23);
        Check.due("lay anew", x.lay(), 2);
        Check.due("wipe", x.wipe(), 23);
        Check.due("wipe anew", x.wipe(), 0);
        Check.due("bytes", x.count(3), 0);
        Check.due("pieces", x.count(1), 2);
        Check.due("no fault in nothing", x.fault(), -4);
        Check.due("nothing to lay", x.lay(), -2);
        Check.due("pieces then", x.count(1), 2);
        Check.due("write from the begin", Check.write(x, "v1,1;"), 5);
        Check.due("no fault", x.fault(), -4);
        x.wipe();
        Check.write(x, "v1,1");
        Check.due("what was wiped is not read", x.fault(), 0);
    }

    /** Promise 4: the first byte of the first item that is not so. */
    private static void fault() {
        String[] good = {"", "v1,0;", "v99,999;", "p1,1,0,0;", "p99,8,100,999;", "b0,0;", "b100,100;", "c0,0;",
            "c99,99;", "h0;", "h999;", "k1,1;", "k8,999;", "t1,10;", "t400,10;", "v001,010;", "t100,0;t100,10;",
            "b1,1;b1,2;c1,1;c2,2;h1;h2;k1,1;k2,2;"};
        for (String text : good) {
            Check.due("fault of " + text, Check.fault(text), -4);
        }
        String[] bad = {"v", "v1", "v1,", "v1,1", "v;", "v,;", "v1,;", "v,1;", "v1;", "v1,1,1;", "V1,1;", ";", ",", "1",
            "v1,1,", "v1 ,1;", " v1,1;", "v1.1;", "v-1,1;", "v+1,1;", "v1,1:", "v1;1;", "p1,1,1;", "p1,1,1,1,1;", "h;",
            "h1,1;", "b1;", "b1,1,1;", "c1;", "k1;", "t1;", "t1,1,1;", "x1,1;", "w1,1;", "v0001,1;", "v1,0001;",
            "v1,1234;", "h0000;", "h1000;", "v1:,1;", "v1,/;"};
        for (String text : bad) {
            Check.due("fault of " + text, Check.fault(text), 0);
            Check.due("fault of v1,1; and " + text, Check.fault("v1,1;" + text), 5);
        }
        Check.due("the first of two", Check.fault("v1,1;h1;x1;y1;"), 8);
        Check.due("a fault ahead of the steels'", Check.fault("t1,1;x1;"), 5);
        Check.due("a line's end", Check.fault("v1,1;\n"), 5);
        Check.due("a zero byte", Check.fault("v1,1;" + (char) 0), 5);
        Check.due("a high byte", Check.fault("v1,1;" + (char) 0xf6 + "1,1;"), 5);
        Check.due("a high figure", Check.fault("v1," + (char) ('1' + 128) + ";"), 0);
    }

    /** Promise 4: numbers just outside their range. */
    private static void faultOfNumbers() {
        String[] bad = {"v0,1;", "v100,1;", "v999,1;", "p0,1,1,1;", "p100,1,1,1;", "p1,0,1,1;", "p1,9,1,1;", "p1,1,101,1;",
            "b101,1;", "b1,101;", "c100,1;", "c1,100;", "k0,1;", "k9,1;", "k1,0;", "t0,10;", "t401,10;", "t1,11;"};
        for (String text : bad) {
            Check.due("fault of " + text, Check.fault(text), 0);
            Check.due("fault of h7; and " + text, Check.fault("h7;" + text + "x"), 3);
        }
    }

    /** Promise 4: six speeds, eight pieces, four steels at most, these together 10. */
    private static void faultOfMany() {
        Check.due("six speeds", Check.fault("v1,1;".repeat(6)), -4);
        Check.due("seven speeds", Check.fault("v1,1;".repeat(7)), 30);
        Check.due("eight pieces", Check.fault("p1,1,1,1;".repeat(8)), -4);
        Check.due("nine pieces", Check.fault("p1,1,1,1;".repeat(9)), 72);
        Check.due("four steels", Check.fault("t1,1;t1,2;t1,3;t1,4;"), -4);
        Check.due("five steels", Check.fault("t1,1;t1,2;t1,3;t1,4;t1,0;"), 20);
        Check.due("together 9", Check.fault("t1,9;h1;"), 8);
        Check.due("together 11", Check.fault("t1,9;t1,2;h1;"), 13);
        Check.due("together 0", Check.fault("t1,0;"), 5);
        Check.due("together 20", Check.fault("t1,10;t1,10;v1,1;"), 17);
        Check.due("a hundred edges", Check.fault("b1,1;".repeat(100)), -4);
        EdgeAndSpeed x = new EdgeAndSpeed();
        Check.write(x, "t1,9;");
        Check.due("together 9", x.fault(), 5);
        Check.write(x, "t1,1;");
        Check.due("together 10 then", x.fault(), -4);
        Check.due("fault lays nothing", x.count(2), 1);
    }

    /** Promise 5: what a text without fault tells is laid, how many pieces. */
    private static void lay() {
        EdgeAndSpeed x = new EdgeAndSpeed();
        Check.write(x, "p50,2,30,7;v20,40;h30;v10,10;k1,15;t50,3;c1,2;t200,7;b10,20;p30,8,100,0;p1,1,1,1;");
        Check.due("lay", x.lay(), 3);
        Check.due("speeds", x.count(0), 2);
        Check.due("pieces", x.count(1), 3);
        Check.due("steels", x.count(2), 2);
        Check.due("the first speed, the first piece", x.pass(0, 0, 1, 0, 0), 250);
        Check.due("the second speed", x.pass(0, 1, 1, 0, 0), 500);
        Check.due("the second piece", x.pass(1, 1, 1, 1, 0), 300);
        Check.due("Q times d above O", x.pass(0, 0, 1, 0, 2), 0);
        Check.due("d no deeper than K", x.pass(0, 1, 1, 0, 2), 1);
        Check.due("deeper than K", x.pass(0, 1, 2, 0, 2), 0);
        Check.due("breaks", x.breaks(10), 20);
        Check.due("a state of 8 left", x.does(0, 0, 1, 8, 0), 49);
    }

    /** Promise 5: hands as at first, log empty, nothing kept, what the text does not tell as without it. */
    private static void layAsAtFirst() {
        EdgeAndSpeed x = Check.laid("v10,10;v20,20;p10,2,50,10;b5,5;c1,1;h1;k1,1;t200,4;t300,6;");
        Check.due("hand 0", x.hand(0, 1), 0);
        Check.due("hand 1", x.hand(1, 1), 100);
        Check.due("hand 2", x.hand(2, 1), 8);
        x.wipe();
        Check.write(x, "v10,10;v20,20;p10,2,50,10;");
        Check.due("lay", x.lay(), 1);
        Check.due("log", x.log(0, 1, 1, 0), 1);
        Check.due("keep", x.keep(), 1);
        Check.due("keep", x.keep(), 2);
        Check.due("deep passes again", x.pass(0, 1, 8, 0, 2), 1);
        Check.due("one steel again", x.count(2), 1);
        Check.due("of hardness 100", x.pass(0, 0, 8, 0, 1), 8);
        Check.due("no edge breaks", x.breaks(100), 0);
        Check.due("a change costs 4, 9 again, an hour 60", x.value(1, 0, 0, 1, 51), -78000 + 54000);
        Check.due("hand 0", x.hand(0, 1), 0);
        Check.due("hand 1", x.hand(1, 1), 100);
        Check.due("hand 2", x.hand(2, 1), 8);
        Check.due("lay anew", x.lay(), 1);
        Check.due("no log", x.count(4), 0);
        Check.due("none kept", x.count(5), 0);
        Check.due("hand 0", x.hand(0, 1), 0);
        Check.due("hand 1", x.hand(1, 1), 100);
        Check.due("hand 2", x.hand(2, 1), 8);
        Check.due("back", x.back(), -2);
    }

    /** Promise 5: NO changes nothing. */
    private static void layRefused() {
        String[] not = {"", "v1,1;", "p1,1,1,1;", "h1;", "v1,1;p1,1,1,1;x", "v1,1;p1,1,1,1;t1,9;", "v1,1;v0,1;p1,1,1,1;"};
        for (String text : not) {
            EdgeAndSpeed x = Check.laid("v10,10;v20,20;p10,2,50,10;p10,1,50,10;b5,5;");
            x.hand(0, 1);
            x.log(0, 1, 1, 0);
            x.keep();
            long value = x.value(0, 0, 0, 2, 0);
            x.wipe();
            Check.write(x, text);
            Check.due("lay " + text, x.lay(), -2);
            Check.due("the text stays " + text, x.count(3), text.length());
            Check.due("speeds stay " + text, x.count(0), 2);
            Check.due("pieces stay " + text, x.count(1), 2);
            Check.due("log stays " + text, x.count(4), 1);
            Check.due("kept stays " + text, x.count(5), 1);
            Check.due("edges stay " + text, x.breaks(5), 5);
            Check.due("value stays " + text, x.value(0, 0, 0, 2, 0), value);
            Check.due("hand stays " + text, x.hand(0, 0), 1);
        }
    }

    /** Promise 6: hundredths of minutes rounded up, what it wears cut; BAD. */
    private static void pass() {
        EdgeAndSpeed x = Check.laid("v3,7;v99,999;p10,2,50,10;p99,8,50,10;t33,4;t400,6;");
        Check.due("1000 by 3", x.pass(0, 0, 1, 0, 0), 334);
        Check.due("9900 by 3", x.pass(1, 0, 1, 0, 0), 3300);
        Check.due("1000 by 99", x.pass(0, 1, 1, 0, 0), 11);
        Check.due("9900 by 99", x.pass(1, 1, 1, 0, 0), 100);
        Check.due("depth takes no time", x.pass(1, 1, 8, 1, 0), 100);
        Check.due("10 7 5 33 by 10000", x.pass(0, 0, 5, 0, 1), 1);
        Check.due("10 7 4 33 by 10000", x.pass(0, 0, 4, 0, 1), 0);
        Check.due("99 999 8 400 by 10000", x.pass(1, 1, 8, 1, 1), 31648);
        Check.due("steps beyond the piece's", x.pass(0, 0, 8, 0, 2), 1);
        EdgeAndSpeed plain = Check.laid("v99,999;p99,8,50,10;");
        Check.due("a hardness of 100 without steels", plain.pass(0, 0, 8, 0, 1), 7912);
        int[][] bad = {{-1, 0, 1, 0, 0}, {2, 0, 1, 0, 0}, {0, -1, 1, 0, 0}, {0, 2, 1, 0, 0}, {0, 0, 0, 0, 0}, {0, 0, 9, 0, 0},
            {0, 0, 1, -1, 0}, {0, 0, 1, 2, 0}, {0, 0, 1, 0, -1}, {0, 0, 1, 0, 3}, {7, 0, 1, 0, 0}, {0, 5, 1, 0, 0},
            {0, 0, 1, 3, 0}, {Integer.MIN_VALUE, 0, 1, 0, 0}, {0, Integer.MAX_VALUE, 1, 0, 1}};
        for (int[] b : bad) {
            Check.due("bad pass", x.pass(b[0], b[1], b[2], b[3], b[4]), -1);
        }
    }

    /** Promise 6: no deeper than K, nor Q times d above O. */
    private static void passTooDeep() {
        EdgeAndSpeed x = Check.laid("v10,7;v21,7;v99,1;p10,8,50,10;k5,42;");
        int[] most = {4, 2, 0};
        for (int i = 0; i < 3; i++) {
            for (int d = 1; d <= 8; d++) {
                Check.due("may be " + i + " " + d, x.pass(0, i, d, 0, 2), d <= most[i] ? 1 : 0);
            }
        }
        EdgeAndSpeed y = Check.laid("v1,7;v99,7;v99,7;p10,8,50,10;k3,999;");
        Check.due("as deep as K", y.pass(0, 0, 3, 0, 2), 1);
        Check.due("deeper than K", y.pass(0, 0, 4, 0, 2), 0);
        EdgeAndSpeed z = Check.laid("v99,7;p10,8,50,10;k1,1;k8,500;");
        Check.due("the last k", z.pass(0, 0, 5, 0, 2), 1);
        Check.due("above the last k's O", z.pass(0, 0, 6, 0, 2), 0);
    }

    /** Promise 7: of several the one of the greatest A, of these the last; 0 without. */
    private static void breaks() {
        EdgeAndSpeed x = Check.laid("v1,1;p1,1,1,1;b50,10;b20,30;b80,90;b50,7;b100,100;b80,5;");
        int[][] due = {{0, 0}, {19, 0}, {20, 30}, {49, 30}, {50, 7}, {79, 7}, {80, 5}, {99, 5}, {100, 100}, {-1, -1}, {101, -1}};
        for (int[] d : due) {
            Check.due("breaks " + d[0], x.breaks(d[0]), d[1]);
        }
        EdgeAndSpeed y = Check.laid("v1,1;p1,1,1,1;b60,40;b30,0;b0,9;");
        int[][] less = {{0, 9}, {29, 9}, {30, 0}, {59, 0}, {60, 40}, {100, 40}, {Integer.MIN_VALUE, -1}, {Integer.MAX_VALUE, -1}};
        for (int[] d : less) {
            Check.due("breaks less " + d[0], y.breaks(d[0]), d[1]);
        }
    }
}
