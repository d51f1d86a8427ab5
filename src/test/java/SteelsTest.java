/** Promises 14 and 15: guess, blind. */
final class SteelsTest {
    private static final long LEAST = Long.MIN_VALUE;
    /** Speed 1 is the quicker, it wears 60 in the first steel, 120 in the second. */
    private static final String BENCH = "v10,0;v20,600;p10,1,100,10;";

    private SteelsTest() {
    }

    public static void main(String[] args) {
        guess();
        guessGoesOn();
        blind();
        blindFirst();
        blindFour();
        bad();
        Check.end();
    }

    private static void blind(String steels, long[] due) {
        EdgeAndSpeed x = Check.laid(BENCH + steels);
        for (int what = 0; what < 4; what++) {
            Check.due(steels + " blind " + what, x.blind(what), due[what]);
        }
    }

    /** Promise 14: what is best by steel g is done, the steel being h. */
    private static void guess() {
        EdgeAndSpeed x = Check.laid(BENCH + "t100,9;t200,1;");
        Check.due("soft, soft", x.guess(0, 0), 57000);
        Check.due("soft, hard", x.guess(0, 1), -81000);
        Check.due("hard, soft", x.guess(1, 0), 54000);
        Check.due("hard, hard", x.guess(1, 1), 54000);
        x.hand(0, 1);
        x.hand(1, 0);
        Check.due("no hand is asked", x.guess(0, 1), -81000);
    }

    /** Promise 14: by steel g in each state, also in those to which the other steel leads. */
    private static void guessGoesOn() {
        EdgeAndSpeed x = Check.laid("v10,100;p10,1,15,10;p10,1,15,50;t100,5;t200,5;c1,1;");
        // in soft steel it wears 10, then 10 is fine; in hard steel 20, then it changes (12000) as in soft steel it would at 20
        Check.due("soft, soft", x.guess(0, 0), 360000 - 12000);
        Check.due("soft, hard", x.guess(0, 1), 360000 - 12000 - 12000);
        Check.due("hard, soft", x.guess(1, 0), 360000 - 12000);
        Check.due("new object", new EdgeAndSpeed().guess(0, 0), 54000);
        EdgeAndSpeed fine = Check.laid("v10,100;p10,1,0,10;p10,2,10,10;");
        Check.due("from wear 0", fine.guess(0, 0), 120000 - 12000);
        Check.due("from wear 0, blind", fine.blind(1), 1080000);
    }

    /** Promise 15: the guess, its sum, known, known less blind. */
    private static void blind() {
        blind("t100,9;t200,1;", new long[] {1, 540000, 567000, 27000});
        blind("t100,10;t200,0;", new long[] {0, 570000, 570000, 0});
        blind("t200,10;t100,0;", new long[] {0, 540000, 540000, 0});
        blind("t200,0;t100,10;", new long[] {1, 570000, 570000, 0});
        blind("t200,5;t100,5;", new long[] {0, 540000, 555000, 15000});
        blind("", new long[] {0, 570000, 570000, 0});
    }

    /** Promise 15: of several the first. */
    private static void blindFirst() {
        blind("t100,5;t100,5;", new long[] {0, 570000, 570000, 0});
        blind("t200,1;t100,3;t200,1;t100,5;", new long[] {0, 540000, 564000, 24000});
    }

    private static void blindFour() {
        // 166 hundredths: speed 1 wears 99; 167: it wears 100; 168: 100; 169: 101
        blind("t166,1;t167,2;t169,0;t168,7;", new long[] {0, 570000, 570000, 0});
        blind("t169,1;t167,2;t166,0;t168,7;", new long[] {0, 540000, 567000, 27000});
        EdgeAndSpeed x = new EdgeAndSpeed();
        Check.due("new guess", x.blind(0), 0);
        Check.due("new sum", x.blind(1), 540000);
        Check.due("new known", x.blind(2), 540000);
        Check.due("new difference", x.blind(3), 0);
    }

    private static void bad() {
        EdgeAndSpeed x = Check.laid(BENCH + "t100,9;t200,1;");
        int[] bad = {-1, 2, 3, 4, Integer.MIN_VALUE, Integer.MAX_VALUE};
        for (int b : bad) {
            Check.due("bad g", x.guess(b, 0), LEAST);
            Check.due("bad h", x.guess(0, b), LEAST);
        }
        Check.due("bad blind -1", x.blind(-1), LEAST);
        Check.due("bad blind 4", x.blind(4), LEAST);
        Check.due("bad blind least", x.blind(Integer.MIN_VALUE), LEAST);
    }
}
