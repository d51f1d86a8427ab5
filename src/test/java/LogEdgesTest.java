/** Promises 21 to 28: each sentence on logs, rules, runs, what is kept that names a bound, the bound itself and what stands beside it. */
final class LogEdgesTest {
    /** Six speeds, eight pieces of 1 to 8 steps, one steel. */
    private static final String FULL_BENCH = "v10,10;v11,20;v12,30;v13,40;v14,50;v15,60;p10,1,50,10;p10,2,50,10;p10,3,50,10;p10,4,50,10;"
            + "p10,5,50,10;p10,6,50,10;p10,7,50,10;p10,8,50,10;";
    /** Three speeds and one piece, of one step. */
    private static final String THREE = "v10,10;v20,20;v30,30;p10,1,100,10;";

    private LogEdgesTest() {
    }

    public static void main(String[] args) {
        logBounds();
        logPasses();
        logOfPassesAlone();
        logTwenty();
        logBehindNoLog();
        noLogEmptyAndFull();
        offBounds();
        offBelow();
        offEmptyAndFull();
        plainestBounds();
        plainestOfFewest();
        plainestOneSpeedAhead();
        plainestLeast();
        plainestOfTwenty();
        runBounds();
        runDraws();
        runHundredths();
        runSureBreak();
        runCounts();
        runOfAllPieces();
        keepTwo();
        keepLeavesAll();
        keepFullLog();
        countBounds();
        countEmptyAndFull();
        lastOf512();
        Check.end();
    }

    private static int[] with(int[] good, int place, int number) {
        int[] all = good.clone();
        all[place] = number;
        return all;
    }

    private static int[] beside(int least, int most) {
        return new int[] {least - 1, most + 1, most + 256, Integer.MIN_VALUE, Integer.MAX_VALUE};
    }

    private static int log(EdgeAndSpeed x, int[] a) {
        return x.log(a[0], a[1], a[2], a[3]);
    }

    /** Promise 21: a STATE: pieces, LEFT 1 to D of the very piece, WEAR 0 to 100. */
    private static void logBounds() {
        EdgeAndSpeed x = Check.laid(FULL_BENCH);
        int rows = 0;
        for (int p = 0; p < 8; p++) {
            int[][] states = {{p, 1, 0, 0}, {p, p + 1, 100, 0}};
            for (int[] s : states) {
                rows++;
                Check.due("log " + p, log(x, s), rows);
            }
            for (int b : beside(1, p + 1)) {
                Check.due("left " + b + " of piece " + p, x.log(p, b, 0, 0), -1);
            }
        }
        for (int b : beside(0, 7)) {
            Check.due("piece " + b, x.log(b, 1, 0, 0), -1);
        }
        for (int b : beside(0, 100)) {
            Check.due("wear " + b, x.log(0, 1, b, 0), -1);
        }
        Check.due("16 rows", x.count(4), 16);
    }

    /** "a PASS that can be done there": speeds of the bench, d no more than LEFT, not too deep. */
    private static void logPasses() {
        EdgeAndSpeed x = Check.laid("v10,10;v20,20;p10,4,100,10;k3,50;");
        int rows = 0;
        for (int left = 1; left <= 4; left++) {
            for (int act = 0; act < 50; act++) {
                int d = act % 8 + 1;
                boolean can = d <= left && (act < 8 && d <= 3 || act >= 8 && act < 16 && d <= 2);
                rows += can ? 1 : 0;
                Check.due("left " + left + " act " + act, x.log(0, left, 100, act), can ? rows : -1);
            }
        }
        Check.due("rows", x.count(4), 16);
        for (int b : beside(0, 49)) {
            Check.due("act " + b, x.log(0, 4, 5, b), -1);
        }
        EdgeAndSpeed y = Check.laid(FULL_BENCH);
        Check.due("47", y.log(7, 8, 0, 47), 1);
        Check.due("47 with 7 left", y.log(7, 7, 0, 47), -1);
        Check.due("46 with 7 left", y.log(7, 7, 0, 46), 2);
        Check.due("0", y.log(0, 1, 0, 0), 3);
    }

    /** "(a PASS's number)": CHANGE and LEAVE are none, though they can be done there. */
    private static void logOfPassesAlone() {
        EdgeAndSpeed x = Check.laid(FULL_BENCH);
        for (int wear : new int[] {0, 1, 100}) {
            Check.due("48 at " + wear, x.log(0, 1, wear, 48), -1);
            Check.due("49 at " + wear, x.log(0, 1, wear, 49), -1);
        }
        Check.due("no row", x.count(4), 0);
    }

    /** "20 at most"; FULL: nothing changes; BAD ahead of FULL. */
    private static void logTwenty() {
        EdgeAndSpeed x = Check.laid(THREE);
        for (int i = 1; i <= 20; i++) {
            Check.due("row " + i, x.log(0, 1, 5 * i, i == 20 ? 16 : 0), i);
        }
        for (int i = 0; i < 3; i++) {
            Check.due("row 21", x.log(0, 1, 0, 8 * i), -3);
            Check.due("20 rows", x.count(4), 20);
            Check.due("the last row is the twentieth", x.off(0, 100, 2), 0);
        }
        Check.due("BAD", x.log(0, 1, 101, 0), -1);
        Check.due("BAD", x.log(0, 1, 0, 24), -1);
        Check.due("BAD", x.log(0, 2, 0, 0), -1);
        Check.due("20 rows", x.count(4), 20);
    }

    /** FULL is no more, when the log is empty. */
    private static void logBehindNoLog() {
        EdgeAndSpeed x = Check.laid(THREE);
        for (int round = 0; round < 3; round++) {
            for (int i = 1; i <= 20; i++) {
                Check.due("row " + i, x.log(0, 1, 0, 8 * round), i);
            }
            Check.due("FULL", x.log(0, 1, 0, 0), -3);
            Check.due("all of speed " + round, x.off(round, 0, round), 0);
            Check.due("noLog", x.noLog(), 20);
        }
    }

    /** Promise 22: "how many it had": 0, 1, 20. */
    private static void noLogEmptyAndFull() {
        EdgeAndSpeed x = new EdgeAndSpeed();
        Check.due("had 0", x.noLog(), 0);
        x.log(0, 1, 0, 0);
        Check.due("had 1", x.noLog(), 1);
        Check.due("had 0", x.noLog(), 0);
        for (int i = 0; i < 25; i++) {
            x.log(0, 1, 0, 0);
        }
        Check.due("had 20", x.noLog(), 20);
        Check.due("has 0", x.count(4), 0);
    }

    /** Promise 23: i, j speeds of the bench, a 0 to 100. */
    private static void offBounds() {
        EdgeAndSpeed x = Check.laid(FULL_BENCH);
        x.log(7, 8, 50, 0);
        int[][] bounds = {{0, 5}, {0, 100}, {0, 5}};
        int[] good = {1, 50, 1};
        for (int place = 0; place < 3; place++) {
            for (int b : bounds[place]) {
                int[] a = with(good, place, b);
                Check.holds("off " + place + " " + b, x.off(a[0], a[1], a[2]) >= 0);
            }
            for (int b : beside(bounds[place][0], bounds[place][1])) {
                int[] a = with(good, place, b);
                Check.due("off " + place + " " + b, x.off(a[0], a[1], a[2]), -1);
            }
        }
        EdgeAndSpeed one = new EdgeAndSpeed();
        Check.due("one speed", one.off(0, 100, 0), 0);
        Check.due("one speed, i 1", one.off(1, 100, 0), -1);
        Check.due("one speed, j 1", one.off(0, 100, 1), -1);
    }

    /** "SPEED i with WEAR below a (0 to 100), else j": WEAR as a is not below it; a 0 is j always; 100 is above none. */
    private static void offBelow() {
        for (int wear : new int[] {0, 1, 50, 99, 100}) {
            EdgeAndSpeed x = Check.laid(THREE);
            x.log(0, 1, wear, 8);
            for (int a : new int[] {0, 1, 2, 49, 50, 51, 98, 99, 100}) {
                Check.due("wear " + wear + ", i told, a " + a, x.off(1, a, 2), wear < a ? 0 : 1);
                Check.due("wear " + wear + ", j told, a " + a, x.off(2, a, 1), wear < a ? 1 : 0);
                Check.due("i and j", x.off(1, a, 1), 0);
                Check.due("neither", x.off(0, a, 2), 1);
            }
        }
    }

    /** OFF of no row, of twenty. */
    private static void offEmptyAndFull() {
        EdgeAndSpeed x = Check.laid(THREE);
        Check.due("of none", x.off(0, 50, 2), 0);
        for (int i = 0; i < 20; i++) {
            Check.due("one more", x.off(0, 50, 2), i);
            x.log(0, 1, 5 * i, 8);
        }
        Check.due("of twenty", x.off(0, 50, 2), 20);
        Check.due("half of them", x.off(1, 50, 2), 10);
    }

    /** Promise 24: what 0 to 3. */
    private static void plainestBounds() {
        EdgeAndSpeed x = Check.laid(FULL_BENCH);
        for (int what = 0; what < 4; what++) {
            Check.due("of an empty log", x.plainest(what), 0);
        }
        for (int b : beside(0, 3)) {
            Check.due("plainest " + b, x.plainest(b), -1);
        }
    }

    private static void plainest(int[][] rows, int[] due) {
        EdgeAndSpeed x = Check.laid(THREE);
        for (int[] row : rows) {
            x.log(0, 1, row[0], 8 * row[1]);
        }
        for (int what = 0; what < 4; what++) {
            Check.due(java.util.Arrays.deepToString(rows) + " plainest " + what, x.plainest(what), due[what]);
        }
    }

    /** "fewest OFF": one off less is ahead of one speed alone. */
    private static void plainestOfFewest() {
        plainest(new int[][] {{0, 0}, {0, 0}, {1, 2}}, new int[] {0, 1, 2, 0});
        plainest(new int[][] {{0, 0}, {0, 0}, {0, 2}}, new int[] {0, 0, 0, 1});
        plainest(new int[][] {{99, 2}, {100, 1}}, new int[] {2, 100, 1, 0});
        plainest(new int[][] {{100, 2}, {100, 1}}, new int[] {1, 0, 1, 1});
    }

    /** "of these i equal j ahead of others": though others have a lower i. */
    private static void plainestOneSpeedAhead() {
        plainest(new int[][] {{50, 2}}, new int[] {2, 0, 2, 0});
        plainest(new int[][] {{0, 2}}, new int[] {2, 0, 2, 0});
        plainest(new int[][] {{100, 2}}, new int[] {2, 0, 2, 0});
        plainest(new int[][] {{50, 2}, {60, 2}, {70, 2}}, new int[] {2, 0, 2, 0});
        plainest(new int[][] {{50, 1}, {50, 0}, {50, 2}}, new int[] {0, 0, 0, 2});
    }

    /** "then i, a, j the least (one of i equal j with a 0)". */
    private static void plainestLeast() {
        // i: below 10 nothing is told but 1 and 2, one of each, at 9; a 10 to 90 are all as good: the least
        plainest(new int[][] {{9, 1}, {9, 2}, {90, 0}, {90, 0}}, new int[] {1, 10, 0, 1});
        // i 0 with a 1 to .. against i 1: each is off by one
        plainest(new int[][] {{0, 0}, {0, 1}, {5, 2}, {5, 2}}, new int[] {0, 1, 2, 1});
        // j: at 5 one of each of 1 and 2: the lower; i 0 is right at 0 twice
        plainest(new int[][] {{0, 0}, {0, 0}, {5, 2}, {5, 1}}, new int[] {0, 1, 1, 1});
        // one of each speed: i equal j is off by 2, others by 1: i 0, a 1, j 1
        plainest(new int[][] {{0, 0}, {5, 1}, {5, 2}}, new int[] {0, 1, 1, 1});
        plainest(new int[][] {{0, 2}, {5, 1}, {9, 0}}, new int[] {1, 6, 0, 1});
    }

    private static void plainestOfTwenty() {
        EdgeAndSpeed x = Check.laid(THREE);
        for (int i = 0; i < 20; i++) {
            x.log(0, 1, 5 * i, i < 13 ? 16 : 8);
        }
        int[] due = {2, 61, 1, 0};
        for (int what = 0; what < 4; what++) {
            Check.due("of twenty " + what, x.plainest(what), due[what]);
        }
    }

    /** Promise 25: HANDS 0 to 5, steels, z 0 to 9999, what 0 to 4. */
    private static void runBounds() {
        EdgeAndSpeed x = Check.laid(FULL_BENCH + "t100,4;t200,6;");
        int[][] bounds = {{0, 5}, {0, 1}, {0, 9999}, {0, 4}};
        int[] good = {1, 0, 77, 0};
        for (int place = 0; place < 4; place++) {
            for (int b : bounds[place]) {
                int[] a = with(good, place, b);
                Check.holds("run " + place + " " + b, x.run(a[0], a[1], a[2], a[3]) >= 0);
            }
            for (int b : beside(bounds[place][0], bounds[place][1])) {
                int[] a = with(good, place, b);
                Check.due("run " + place + " " + b, x.run(a[0], a[1], a[2], a[3]), -1);
            }
        }
    }

    /** The first draw of z: 7919 z and 1, times itself, modulo 65521, modulo 100. */
    private static void runDraws() {
        int[] draws = {0, 1, 2, 5, 100, 9998, 9999};
        for (int z : draws) {
            long x = 7919L * z + 1;
            int draw = (int) (x * x % 65521 % 100);
            String bench = "v10,0;p10,1,100,10;b0,";
            Check.due("z " + z + " is not below " + draw, Check.laid(bench + draw + ";").run(1, 0, z, 2), 1);
            if (draw < 99) {
                Check.due("z " + z + " is below one more", Check.laid(bench + (draw + 1) + ";").run(1, 0, z, 2), 0);
            }
        }
        // the last draw there can be here: the 64th pass of z 9999
        StringBuilder s = new StringBuilder("v10,0;k1,999;").append("p10,8,100,10;".repeat(8));
        EdgeAndSpeed all = Check.laid(s.append("b0,0;").toString());
        Check.due("64 passes", all.run(1, 0, 9999, 0), 6400);
        EdgeAndSpeed most = Check.laid("v10,0;k1,999;" + "p10,8,100,10;".repeat(8) + "b0,40;");
        Check.due("64 draws at most, hundredths 40", most.run(1, 0, 9999, 2), doneBy(40, 9999));
        EdgeAndSpeed few = Check.laid("v10,0;k1,999;" + "p10,8,100,10;".repeat(8) + "b0,3;");
        Check.due("64 draws at most, hundredths 3", few.run(1, 0, 9999, 2), doneBy(3, 9999));
    }

    /** How many of eight pieces of eight passes each are done, if each pass breaks by so many hundredths. */
    private static int doneBy(int hundredths, int z) {
        int done = 0;
        long t = 0;
        for (int p = 0; p < 8; p++) {
            boolean whole = true;
            for (int s = 0; s < 8 && whole; s++) {
                long x = 7919L * z + 6151L * t + 1;
                t++;
                whole = x * x % 65521 % 100 >= hundredths;
            }
            done += whole ? 1 : 0;
        }
        return done;
    }

    /** "breaks, if DRAW(t) is below its hundredths": 0 never, 100 always. */
    private static void runHundredths() {
        EdgeAndSpeed never = Check.laid("v10,0;" + "p10,1,100,10;".repeat(8) + "b0,0;");
        EdgeAndSpeed always = Check.laid("v10,0;" + "p10,1,100,10;".repeat(8) + "b0,100;");
        for (int z = 0; z <= 9999; z += 99) {
            Check.due("never, z " + z, never.run(1, 0, z, 2), 8);
            Check.due("always, z " + z, always.run(1, 0, z, 3), 8);
        }
    }

    /** An edge that breaks for sure breaks by each draw; one that comes to 100 does not. */
    private static void runSureBreak() {
        EdgeAndSpeed x = Check.laid("v25,50;p25,2,100,10;t400,10;k1,999;");
        EdgeAndSpeed y = Check.laid("v25,51;p25,2,100,10;t400,10;k1,999;");
        for (int z = 0; z <= 9999; z += 99) {
            Check.due("50 and 50, z " + z, x.run(2, 0, z, 2), 1);
            Check.due("51 and 51, z " + z, y.run(2, 0, z, 3), 1);
            Check.due("one change", y.run(2, 0, z, 4), 1);
        }
    }

    /** "hundredths of minutes, six-thousandths of pence spent (COST of all), PIECES done, SPOILT, CHANGES". */
    private static void runCounts() {
        // FINE 0, W 10: a change ahead of each piece but the first
        EdgeAndSpeed x = Check.laid("v10,10;" + "p10,1,0,10;".repeat(8) + "c99,99;h999;");
        long[] due = {800 + 7 * 9900, (800 + 7 * 9900) * 999L + 6000L * 99 * 7, 8, 0, 7};
        for (int what = 0; what < 5; what++) {
            Check.due("run " + what, x.run(1, 0, 0, what), due[what]);
        }
        EdgeAndSpeed free = Check.laid("v10,10;" + "p10,1,0,10;".repeat(8) + "c0,0;h0;");
        long[] naught = {800, 0, 8, 0, 7};
        for (int what = 0; what < 5; what++) {
            Check.due("free run " + what, free.run(1, 0, 0, what), naught[what]);
        }
        EdgeAndSpeed left = Check.laid("v10,10;" + "p10,1,0,0;".repeat(8));
        long[] none = {0, 0, 0, 8, 0};
        for (int what = 0; what < 5; what++) {
            Check.due("all left " + what, left.run(0, 0, 0, what), none[what]);
        }
    }

    /** "From PIECE 0 on": the most that a run does, eight pieces of eight passes with a change ahead of each. */
    private static void runOfAllPieces() {
        EdgeAndSpeed x = Check.laid("v25,1;" + "p25,8,100,10;".repeat(8) + "t400,10;k1,999;");
        x.hand(1, 0);
        Check.due("64 passes, 63 changes", x.run(1, 0, 3, 4), 63);
        Check.due("their minutes", x.run(1, 0, 3, 0), 6400 + 63 * 400);
        Check.due("all done", x.run(1, 0, 3, 2), 8);
        EdgeAndSpeed one = new EdgeAndSpeed();
        Check.due("one piece", one.run(1, 0, 9999, 2), 1);
    }

    /** Promises 26, 27: "2 at most", FULL; NO; each leaves all as it is. */
    private static void keepTwo() {
        EdgeAndSpeed x = Check.laid(THREE);
        Check.due("NO", x.back(), -2);
        Check.due("NO again", x.back(), -2);
        Check.due("none kept", x.count(5), 0);
        for (int round = 0; round < 3; round++) {
            Check.due("one", x.keep(), 1);
            Check.due("two", x.keep(), 2);
            Check.due("FULL", x.keep(), -3);
            Check.due("FULL again", x.keep(), -3);
            Check.due("two kept", x.count(5), 2);
            Check.due("one left", x.back(), 1);
            Check.due("none left", x.back(), 0);
            Check.due("NO", x.back(), -2);
        }
    }

    /** FULL does not put the numbers of now in place of those kept; NO does not put others in place of those of now. */
    private static void keepLeavesAll() {
        EdgeAndSpeed x = Check.laid(THREE);
        x.hand(0, 1);
        x.keep();
        x.hand(0, 2);
        x.hand(1, 50);
        x.keep();
        x.hand(1, 60);
        x.log(0, 1, 7, 8);
        Check.due("FULL", x.keep(), -3);
        Check.due("LIMIT of now", x.hand(1, 60), 60);
        Check.due("the log of now", x.count(4), 1);
        Check.due("back", x.back(), 1);
        Check.due("LIMIT then", x.hand(1, 50), 50);
        Check.due("S then", x.hand(0, 2), 2);
        Check.due("no log then", x.count(4), 0);
        Check.due("back", x.back(), 0);
        Check.due("S at first", x.hand(0, 1), 1);
        Check.due("LIMIT at first", x.hand(1, 30), 100);
        x.log(0, 1, 7, 8);
        Check.due("NO", x.back(), -2);
        Check.due("LIMIT stays", x.hand(1, 30), 30);
        Check.due("the log stays", x.count(4), 1);
    }

    /** "KEPT are numbers of HANDS, LOG": a full log comes back full, an empty one empty; the bench, the text are not kept. */
    private static void keepFullLog() {
        EdgeAndSpeed x = Check.laid(THREE);
        int bytes = x.count(3);
        x.keep();
        for (int i = 1; i <= 20; i++) {
            x.log(0, 1, i, i <= 10 ? 8 : 16);
        }
        x.keep();
        x.noLog();
        for (int i = 1; i <= 20; i++) {
            x.log(0, 1, i, 0);
        }
        Check.due("text", Check.write(x, "h1;"), bytes + 3);
        Check.due("back", x.back(), 1);
        Check.due("twenty rows", x.count(4), 20);
        Check.due("as they were", x.off(1, 11, 2), 0);
        Check.due("FULL", x.log(0, 1, 0, 0), -3);
        Check.due("back", x.back(), 0);
        Check.due("no row", x.count(4), 0);
        Check.due("one has room", x.log(0, 1, 0, 0), 1);
        Check.due("the text stays", x.count(3), bytes + 3);
        x.keep();
        Check.due("lay", x.lay(), 1);
        Check.due("nothing kept", x.count(5), 0);
        Check.due("NO", x.back(), -2);
    }

    /** Promise 28: what 0 to 5. */
    private static void countBounds() {
        EdgeAndSpeed x = new EdgeAndSpeed();
        for (int what = 0; what < 6; what++) {
            Check.holds("count " + what, x.count(what) >= 0);
        }
        for (int b : beside(0, 5)) {
            Check.due("count " + b, x.count(b), -1);
        }
    }

    /** How many: the least and the most of each. */
    private static void countEmptyAndFull() {
        EdgeAndSpeed least = new EdgeAndSpeed();
        int[] few = {1, 1, 1, 0, 0, 0};
        for (int what = 0; what < 6; what++) {
            Check.due("least " + what, least.count(what), few[what]);
        }
        StringBuilder s = new StringBuilder(FULL_BENCH).append("t100,1;t100,2;t100,3;t100,4;");
        while ((500 - s.length()) % 5 != 0) {
            s.append("h1;");
        }
        while (s.length() < 500) {
            s.append("b0,0;");
        }
        EdgeAndSpeed most = Check.laid(s.toString());
        for (int i = 0; i < 21; i++) {
            most.log(0, 1, 0, 0);
            most.keep();
        }
        int[] many = {6, 8, 4, 500, 20, 2};
        for (int what = 0; what < 6; what++) {
            Check.due("most " + what, most.count(what), many[what]);
        }
    }

    /** "An object is used for at most 512 calls": the last one answers as the first one. */
    private static void lastOf512() {
        EdgeAndSpeed first = new EdgeAndSpeed();
        long due = first.value(0, 0, 0, 1, 0);
        EdgeAndSpeed x = new EdgeAndSpeed();
        for (int i = 1; i < 512; i++) {
            switch (i % 8) {
                case 0: x.keep(); break;
                case 1: x.log(0, 1, i % 101, 0); break;
                case 2: x.write(8, -1L); break;
                case 3: x.hand(1, i % 101); break;
                case 4: x.blind(3); break;
                case 5: x.judge(4, 0); break;
                case 6: x.run(0, 0, i, 0); break;
                default: x.two(99, 1, 99, 2, 0); break;
            }
        }
        Check.due("the 512th call", x.value(0, 0, 0, 1, 0), due);
    }
}
