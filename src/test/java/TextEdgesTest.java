/** Promises 1 to 5: each sentence on the text that names a bound, the bound itself and what stands beside it. */
final class TextEdgesTest {
    /** What can be laid, 20 bytes. */
    private static final String LEAST_BENCH = "v10,10;p10,1,100,10;";
    /** The letter of each item, and the least and the greatest of each number. */
    private static final String[] LETTERS = {"v", "p", "b", "c", "h", "k", "t"};
    private static final int[][] BOUNDS = {{1, 99, 0, 999}, {1, 99, 1, 8, 0, 100, 0, 999}, {0, 100, 0, 100}, {0, 99, 0, 99}, {0, 999},
        {1, 8, 1, 999}, {1, 400, 0, 10}};

    private TextEdgesTest() {
    }

    public static void main(String[] args) {
        writeOneToEight();
        writeHighestFirst();
        textOf500();
        fullForEachLength();
        fullBehindWipe();
        wipeEmptyAndFull();
        numbersAtTheirBounds();
        figures();
        partedByCommas();
        semicolonBehindTheLast();
        letters();
        sixSpeeds();
        eightPieces();
        fourSteels();
        steelsTogetherTen();
        steelsWithout();
        firstFault();
        emptyText();
        edges();
        changes();
        hours();
        deepest();
        layOfSpeedAndPiece();
        layAnew();
        newObject();
        Check.end();
    }

    /** "n bytes (1 to 8) of v": 0 and 9 are BAD, behind which nothing has changed. */
    private static void writeOneToEight() {
        for (int n = 1; n <= 8; n++) {
            EdgeAndSpeed x = new EdgeAndSpeed();
            Check.due("write " + n, x.write(n, 0L), n);
            Check.due("how long it is", x.count(3), n);
        }
        int[] bad = {0, 9, -1, 10, 64, 256 + 1, Integer.MIN_VALUE, Integer.MAX_VALUE};
        for (int n : bad) {
            EdgeAndSpeed x = new EdgeAndSpeed();
            Check.due("write " + n, x.write(n, 0x7831L), -1);
            Check.due("nothing came", x.count(3), 0);
            Check.due("no fault came", x.fault(), -4);
            Check.due("write behind it", Check.write(x, "h1;"), 3);
            Check.due("still BAD", x.write(n, 0x7831L), -1);
            Check.due("no fault behind", x.fault(), -4);
        }
    }

    /** "n bytes of v, the highest first": of any long, its sign, too. */
    private static void writeHighestFirst() {
        String item = "v99,999;";
        for (int n = 1; n <= 8; n++) {
            EdgeAndSpeed x = new EdgeAndSpeed();
            for (int from = 0; from < 8; from += n) {
                int to = Math.min(8, from + n);
                long v = 0;
                for (int k = from; k < to; k++) {
                    v = v << 8 | item.charAt(k);
                }
                Check.due("write to " + to, x.write(to - from, v), to);
            }
            Check.due("no fault in eights of " + n, x.fault(), -4);
        }
        EdgeAndSpeed least = new EdgeAndSpeed();
        Check.due("the least long", least.write(8, Long.MIN_VALUE), 8);
        Check.due("its first byte is none", least.fault(), 0);
        EdgeAndSpeed back = new EdgeAndSpeed();
        Check.due("the bytes the other way", back.write(3, 0x3b3168L), 3);
        Check.due("are a fault", back.fault(), 0);
        EdgeAndSpeed sign = new EdgeAndSpeed();
        Check.due("h1; below a long's sign", sign.write(3, 0x800000000068313bL), 3);
        Check.due("are h1;", sign.fault(), -4);
    }

    /** A text of so many bytes, without fault: one speed, one piece, then edges and hours. */
    private static String filled(int bytes) {
        StringBuilder s = new StringBuilder(LEAST_BENCH);
        while (s.length() + 3 <= bytes && (bytes - s.length()) % 5 != 0) {
            s.append("h1;");
        }
        while (s.length() + 5 <= bytes) {
            s.append("b0,7;");
        }
        Check.due("bytes of the text", s.length(), bytes);
        return s.toString();
    }

    /** "A TEXT is bytes (500 at most)": 500 are read to the last one, 501 are not taken. */
    private static void textOf500() {
        EdgeAndSpeed x = new EdgeAndSpeed();
        Check.due("500 bytes", Check.write(x, filled(500)), 500);
        Check.due("no fault", x.fault(), -4);
        Check.due("a byte more", x.write(1, 'x'), -3);
        Check.due("500 stay", x.count(3), 500);
        Check.due("no fault stays", x.fault(), -4);
        Check.due("lay", x.lay(), 1);
        Check.due("the last item is laid", x.breaks(0), 7);
        EdgeAndSpeed y = new EdgeAndSpeed();
        Check.write(y, filled(499));
        Check.due("no fault in 499", y.fault(), -4);
        Check.due("the last byte", y.write(1, 'v'), 500);
        Check.due("a fault at the last byte", y.fault(), 499);
        Check.due("not laid", y.lay(), -2);
        EdgeAndSpeed z = new EdgeAndSpeed();
        Check.write(z, filled(496));
        Check.due("the last four", z.write(4, 0x68393939L), 500);
        Check.due("h999 without its end", z.fault(), 496);
        Check.due("its end is not taken", z.write(1, ';'), -3);
        Check.due("the fault stays", z.fault(), 496);
        EdgeAndSpeed steel = new EdgeAndSpeed();
        Check.write(steel, filled(495));
        Check.due("t1,9;", Check.write(steel, "t1,9;"), 500);
        Check.due("a fault at the text's end", steel.fault(), 500);
    }

    /** FULL: what has no room wholly is not taken in part. */
    private static void fullForEachLength() {
        for (int n = 1; n <= 8; n++) {
            EdgeAndSpeed x = new EdgeAndSpeed();
            String most = filled(500 - n);
            Check.write(x, most);
            for (int more = n + 1; more <= 8; more++) {
                Check.due(more + " bytes where " + n + " have room", x.write(more, -1L), -3);
                Check.due("nothing came", x.count(3), 500 - n);
            }
            Check.due("no fault came", x.fault(), -4);
            Check.due(n + " bytes where " + n + " have room", x.write(n, -1L), 500);
            Check.due("they came", x.fault(), 500 - n);
            for (int more = 1; more <= 8; more++) {
                Check.due(more + " bytes, none has room", x.write(more, -1L), -3);
            }
            Check.due("0 bytes, none has room", x.write(0, -1L), -1);
            Check.due("9 bytes, none has room", x.write(9, -1L), -1);
            Check.due("500 stay", x.count(3), 500);
        }
    }

    /** A full text that was wiped has room for 500 again. */
    private static void fullBehindWipe() {
        EdgeAndSpeed x = new EdgeAndSpeed();
        Check.write(x, filled(500));
        Check.due("wipe", x.wipe(), 500);
        Check.due("500 anew", Check.write(x, filled(500)), 500);
        Check.due("no fault", x.fault(), -4);
        Check.due("501", x.write(1, 0L), -3);
    }

    /** "THE TEXT is empty: how long it was": 0, 1, 500. */
    private static void wipeEmptyAndFull() {
        EdgeAndSpeed x = new EdgeAndSpeed();
        Check.due("wipe an empty one", x.wipe(), 0);
        x.write(1, 'v');
        Check.due("wipe one byte", x.wipe(), 1);
        Check.due("it is empty", x.count(3), 0);
        Check.due("without fault", x.fault(), -4);
        for (int i = 0; i < 125; i++) {
            x.write(4, 0L);
        }
        Check.due("wipe a full one", x.wipe(), 500);
        Check.due("it is empty", x.count(3), 0);
        Check.due("wipe an empty one", x.wipe(), 0);
        Check.due("write behind it", x.write(1, 'v'), 1);
    }

    /** An item with one number put in place of its least one, the others at theirs. */
    private static String item(int letter, int place, String number) {
        StringBuilder s = new StringBuilder(LETTERS[letter]);
        int many = BOUNDS[letter].length / 2;
        for (int i = 0; i < many; i++) {
            int other = letter == 6 && i == 1 ? 10 : BOUNDS[letter][2 * i];
            s.append(i == place ? number : "" + other).append(i + 1 < many ? ',' : ';');
        }
        return s.toString();
    }

    /** The steels' tenths are told for themselves: a number of theirs is one, though they are not 10 together. */
    private static int faultAtEnd(int letter, int place, int number, int length) {
        return letter == 6 && place == 1 && number != 10 ? length : -4;
    }

    /** The bounds in brackets: the least and the greatest are told, those beside them are not. */
    private static void numbersAtTheirBounds() {
        for (int letter = 0; letter < LETTERS.length; letter++) {
            for (int place = 0; place < BOUNDS[letter].length / 2; place++) {
                int least = BOUNDS[letter][2 * place];
                int most = BOUNDS[letter][2 * place + 1];
                for (int good : new int[] {least, least + 1, most - 1, most}) {
                    String text = item(letter, place, "" + good);
                    Check.due("fault of " + text, Check.fault(text), faultAtEnd(letter, place, good, text.length()));
                    Check.due("fault behind others", Check.fault(LEAST_BENCH + text),
                            faultAtEnd(letter, place, good, 20 + text.length()));
                }
                for (int bad : new int[] {least - 1, most + 1, 1000}) {
                    String text = item(letter, place, "" + bad);
                    Check.due("fault of " + text, Check.fault(text), 0);
                    Check.due("fault behind others of " + text, Check.fault(LEAST_BENCH + text), 20);
                }
            }
        }
    }

    /** "numbers (one to three figures)": none and four are not so, whatever number they are. */
    private static void figures() {
        for (int letter = 0; letter < LETTERS.length; letter++) {
            for (int place = 0; place < BOUNDS[letter].length / 2; place++) {
                int number = letter == 6 && place == 1 ? 10 : Math.max(1, BOUNDS[letter][2 * place]);
                String three = ("" + (1000 + number)).substring(1);
                Check.due("three figures", Check.fault(item(letter, place, three)), -4);
                Check.due("two figures", Check.fault(item(letter, place, three.substring(1))), -4);
                Check.due("no figure", Check.fault(item(letter, place, "")), 0);
                Check.due("four figures", Check.fault(item(letter, place, "0" + three)), 0);
                Check.due("five figures", Check.fault(item(letter, place, "00" + three)), 0);
                Check.due("a sign", Check.fault(item(letter, place, "-" + number)), 0);
                Check.due("a blank", Check.fault(item(letter, place, " " + number)), 0);
                Check.due("a byte below the figures", Check.fault(item(letter, place, "/")), 0);
                Check.due("a byte above the figures", Check.fault(item(letter, place, ":")), 0);
            }
        }
        EdgeAndSpeed x = Check.laid("v010,001;p010,001,000,010;");
        Check.due("010 is ten", x.pass(0, 0, 1, 0, 0), 100);
        Check.due("000 is none", x.does(1, 0, 0, 1, 1), 48);
    }

    /** "numbers parted by ,": one too few, one too many, another byte between them. */
    private static void partedByCommas() {
        for (int letter = 0; letter < LETTERS.length; letter++) {
            String good = item(letter, -1, "");
            Check.due("as many as are told", Check.fault(good), -4);
            int end = good.length() - 1;
            Check.due("one more", Check.fault(good.substring(0, end) + ",1;"), 0);
            Check.due("a comma behind the last one", Check.fault(good.substring(0, end) + ",;"), 0);
            Check.due("two ends", Check.fault(good + ";"), good.length());
            int comma = good.lastIndexOf(',');
            if (comma > 0) {
                Check.due("one less", Check.fault(good.substring(0, comma) + ";"), 0);
                Check.due("; for ,", Check.fault(good.substring(0, comma) + ";" + good.substring(comma + 1)), 0);
                Check.due(". for ,", Check.fault(good.substring(0, comma) + "." + good.substring(comma + 1)), 0);
                Check.due("two commas", Check.fault(good.substring(0, comma) + "," + good.substring(comma)), 0);
            }
            Check.due("a comma ahead of the first one", Check.fault(good.charAt(0) + "," + good.substring(1)), 0);
        }
    }

    /** "; (behind the last one, too)": each beginning of an item is a fault at the item's first byte. */
    private static void semicolonBehindTheLast() {
        for (int letter = 0; letter < LETTERS.length; letter++) {
            String good = item(letter, -1, "");
            for (int bytes = 1; bytes < good.length(); bytes++) {
                Check.due("the first " + bytes + " of " + good, Check.fault(good.substring(0, bytes)), 0);
                Check.due("the same behind others", Check.fault(LEAST_BENCH + good.substring(0, bytes)), 20);
            }
        }
    }

    /** "each a letter": the seven that are told, no other byte of the 256. */
    private static void letters() {
        for (int b = 0; b < 256; b++) {
            String one = (char) b + "1;";
            String two = (char) b + "1,10;";
            String four = (char) b + "1,1,1,1;";
            Check.due(b + " with one number", Check.fault(one), b == 'h' ? -4 : 0);
            Check.due(b + " with two numbers", Check.fault(two), "vbckt".indexOf(b) >= 0 ? -4 : 0);
            Check.due(b + " with four numbers", Check.fault(four), b == 'p' ? -4 : 0);
            Check.due(b + " alone", Check.fault("" + (char) b), 0);
        }
    }

    /** "6 at most, 0, 1, .. as they come". */
    private static void sixSpeeds() {
        EdgeAndSpeed x = Check.laid("v10,0;v20,0;v25,0;v40,0;v50,0;v99,999;p10,1,100,10;");
        Check.due("six", x.count(0), 6);
        int[] minutes = {100, 50, 40, 25, 20, 11};
        for (int i = 0; i < 6; i++) {
            Check.due("speed " + i, x.pass(0, i, 1, 0, 0), minutes[i]);
        }
        Check.due("speed 6", x.pass(0, 6, 1, 0, 0), -1);
        Check.write(x, "v1,1;");
        Check.due("a seventh one", x.fault(), "v10,0;v20,0;v25,0;v40,0;v50,0;v99,999;p10,1,100,10;".length());
        Check.due("is not laid", x.lay(), -2);
        Check.due("six stay", x.count(0), 6);
        Check.due("their last one stays", x.pass(0, 5, 1, 0, 0), 11);
    }

    /** "8 at most, in this row". */
    private static void eightPieces() {
        StringBuilder s = new StringBuilder("v10,10;");
        for (int p = 1; p <= 8; p++) {
            s.append('p').append(10 * p).append(',').append(p).append(",100,10;");
        }
        EdgeAndSpeed x = Check.laid(s.toString());
        Check.due("eight", x.count(1), 8);
        for (int p = 0; p < 8; p++) {
            Check.due("piece " + p, x.pass(p, 0, 1, 0, 0), 100 * (p + 1));
            Check.due("its steps", x.does(1, 0, p, p + 1, 0), p);
            Check.due("no step more", x.does(1, 0, p, p + 2, 0), -1);
        }
        Check.due("piece 8", x.pass(8, 0, 1, 0, 0), -1);
        Check.write(x, "p1,1,1,1;");
        Check.due("a ninth one", x.fault(), s.length());
        Check.due("is not laid", x.lay(), -2);
        Check.due("eight stay", x.count(1), 8);
    }

    /** "4 at most": a fifth one is a fault at its own place, though together they are 10. */
    private static void fourSteels() {
        EdgeAndSpeed x = Check.laid("v10,100;p10,1,100,10;t100,1;t200,2;t300,3;t400,4;");
        Check.due("four", x.count(2), 4);
        for (int h = 0; h < 4; h++) {
            Check.due("steel " + h, x.pass(0, 0, 1, h, 1), 10 * (h + 1));
        }
        Check.due("steel 4", x.pass(0, 0, 1, 4, 1), -1);
        Check.write(x, "t1,0;");
        Check.due("a fifth one", x.fault(), 49);
        Check.due("is not laid", x.lay(), -2);
        Check.due("four stay", x.count(2), 4);
    }

    /** "together 10, else a FAULT at the text's end": 9 and 11 by one to four steels. */
    private static void steelsTogetherTen() {
        String[] ten = {"t1,10;", "t1,0;t2,10;", "t1,5;t2,5;", "t1,10;t2,0;t3,0;t4,0;", "t1,0;t2,0;t3,0;t4,10;", "t1,1;t2,2;t3,3;t4,4;"};
        for (String text : ten) {
            Check.due("fault of " + text, Check.fault(text), -4);
            Check.due("others between them", Check.fault(text.replace(";", ";h1;")), -4);
        }
        String[] not = {"t1,0;", "t1,1;", "t1,9;", "t1,9;t2,0;", "t1,5;t2,4;", "t1,5;t2,6;", "t1,10;t2,1;", "t1,0;t2,0;t3,0;t4,0;",
            "t1,10;t2,10;t3,10;t4,10;", "t1,1;t2,2;t3,3;t4,3;", "t1,1;t2,2;t3,3;t4,5;"};
        for (String text : not) {
            Check.due("fault of " + text, Check.fault(text), text.length());
            Check.due("fault with a bench behind", Check.fault(text + LEAST_BENCH), text.length() + 20);
            Check.due("an earlier fault is the first", Check.fault(text + "h1000;" + LEAST_BENCH), text.length());
        }
    }

    /** "one of 100, 10 without". */
    private static void steelsWithout() {
        EdgeAndSpeed x = Check.laid("v10,100;p10,1,100,10;");
        Check.due("one", x.count(2), 1);
        Check.due("of 100", x.pass(0, 0, 1, 0, 1), 10);
        Check.due("of 10 tenths", x.blind(1), 10 * x.value(0, 0, 0, 1, 0));
        EdgeAndSpeed y = Check.laid("t1,10;v10,100;p10,1,100,10;");
        Check.due("one of 1", y.count(2), 1);
        Check.due("wears nothing", y.pass(0, 0, 8, 0, 1), 0);
    }

    /** "the place of the first byte of the first ITEM that is not so". */
    private static void firstFault() {
        String[] bad = {"v0,1;", "p1,9,1,1;", "b101,1;", "c1,100;", "h1000;", "k9,1;", "t1,11;", "x", ";", "v1", "v1,1,1;"};
        for (String one : bad) {
            for (String other : bad) {
                Check.due(one + " ahead of " + other, Check.fault("h1;h22;" + one + "h1;" + other), 7);
            }
        }
        Check.due("at 0", Check.fault("x" + LEAST_BENCH), 0);
        Check.due("at the last byte", Check.fault(LEAST_BENCH + "x"), 20);
    }

    /** An empty text: no item, no fault; nothing to lay. */
    private static void emptyText() {
        EdgeAndSpeed x = new EdgeAndSpeed();
        Check.due("no fault", x.fault(), -4);
        Check.due("NO", x.lay(), -2);
        Check.due("the first bench stays", x.value(0, 0, 0, 1, 0), 54000);
        Check.due("one speed stays", x.count(0), 1);
        Check.due("one piece stays", x.count(1), 1);
    }

    /** "an edge with WEAR A or more breaks"; "of several that hold the one of the greatest A, of these the last (0 without)". */
    private static void edges() {
        int[] wears = {0, 1, 50, 99, 100};
        for (int a : wears) {
            EdgeAndSpeed x = Check.laid(LEAST_BENCH + "b" + a + ",77;");
            for (int w : wears) {
                Check.due("b" + a + " at " + w, x.breaks(w), w >= a ? 77 : 0);
            }
        }
        EdgeAndSpeed none = Check.laid(LEAST_BENCH);
        for (int w : wears) {
            Check.due("without, at " + w, none.breaks(w), 0);
        }
        EdgeAndSpeed all = Check.laid(LEAST_BENCH + "b100,100;b99,0;b1,1;b0,100;");
        int[] due = {100, 1, 1, 0, 100};
        for (int i = 0; i < wears.length; i++) {
            Check.due("the greatest that holds at " + wears[i], all.breaks(wears[i]), due[i]);
        }
        EdgeAndSpeed last = Check.laid(LEAST_BENCH + "b50,9;b40,99;b50,0;b40,1;");
        Check.due("39", last.breaks(39), 0);
        Check.due("40: the last one", last.breaks(40), 1);
        Check.due("49", last.breaks(49), 1);
        Check.due("50: the last one, of 0", last.breaks(50), 0);
        Check.due("100", last.breaks(100), 0);
    }

    /** What one change costs and takes: the last edge of FINE 0 is worn by 1. */
    private static void change(String items, long minutes, long cost) {
        EdgeAndSpeed x = Check.laid("v10,0;p10,1,0,0;h1;" + items);
        Check.due(items + " minutes", x.mean(1, 0, 0, 1, 1, 0), 100 + minutes);
        Check.due(items + " cost", x.value(1, 0, 0, 1, 1), -100 - cost);
    }

    /** "M minutes (0 to 99), costs P pence (0 to 99) (4, 9 without; the last one)"; COST of it: of 100 M and P. */
    private static void changes() {
        change("", 400, 400 + 54000);
        change("c0,0;", 0, 0);
        change("c99,99;", 9900, 9900 + 594000);
        change("c99,99;c0,0;", 0, 0);
        change("c0,0;c99,0;", 9900, 9900);
        change("c0,99;c1,1;c0,99;", 0, 594000);
    }

    /** "an hour costs P pence (0 to 999) (60 without; the last one)". */
    private static void hours() {
        int[][] due = {{-1, 60}, {0, 0}, {1, 1}, {998, 998}, {999, 999}};
        for (int[] d : due) {
            String items = d[0] < 0 ? "" : "h" + d[0] + ";";
            Check.due("h" + d[0], Check.laid("v10,0;p10,1,100,0;" + items).value(1, 0, 0, 1, 0), -100L * d[1]);
            Check.due("h7, h" + d[0], Check.laid("v10,0;p10,1,100,0;h7;" + items).value(1, 0, 0, 1, 0),
                    -100L * (d[0] < 0 ? 7 : d[1]));
        }
        Check.due("the last one", Check.laid("h999;v10,0;p10,1,100,0;h0;").value(1, 0, 0, 1, 0), 0);
    }

    /** "no PASS is deeper than K STEPS, nor Q times STEPS above O (8, 999 without; the last one)". */
    private static void deepest() {
        for (int k = 1; k <= 8; k++) {
            EdgeAndSpeed x = Check.laid("v99,0;p10,8,100,10;k" + k + ",999;");
            for (int d = 1; d <= 8; d++) {
                Check.due("K " + k + ", d " + d, x.pass(0, 0, d, 0, 2), d <= k ? 1 : 0);
            }
        }
        int[] works = {1, 98, 99, 100, 197, 198, 199, 791, 792, 793, 999};
        int[] most = {0, 0, 1, 1, 1, 2, 2, 7, 8, 8, 8};
        for (int i = 0; i < works.length; i++) {
            EdgeAndSpeed x = Check.laid("v99,0;v1,0;p10,8,100,10;k8," + works[i] + ";");
            for (int d = 1; d <= 8; d++) {
                Check.due("O " + works[i] + ", d " + d, x.pass(0, 0, d, 0, 2), d <= most[i] ? 1 : 0);
                Check.due("O " + works[i] + ", Q 1, d " + d, x.pass(0, 1, d, 0, 2), d <= works[i] ? 1 : 0);
            }
        }
        EdgeAndSpeed none = Check.laid("v99,0;p10,8,100,10;");
        Check.due("8 without", none.pass(0, 0, 8, 0, 2), 1);
        EdgeAndSpeed last = Check.laid("v99,0;p10,8,100,10;k8,999;k1,1;k2,198;");
        Check.due("the last one", last.pass(0, 0, 2, 0, 2), 1);
        Check.due("the last one's K", last.pass(0, 0, 3, 0, 2), 0);
    }

    /** "a TEXT without FAULT, of one SPEED and one PIECE at least (NO else)". */
    private static void layOfSpeedAndPiece() {
        EdgeAndSpeed x = new EdgeAndSpeed();
        Check.write(x, "v10,10;");
        Check.due("a speed alone", x.lay(), -2);
        Check.write(x, "p20,2,100,10;");
        Check.due("one of each", x.lay(), 1);
        Check.due("its length", x.pass(0, 0, 1, 0, 0), 200);
        x.wipe();
        Check.due("an empty one", x.lay(), -2);
        Check.write(x, "p30,3,100,10;");
        Check.due("a piece alone", x.lay(), -2);
        Check.due("what was laid stays", x.pass(0, 0, 1, 0, 0), 200);
        Check.write(x, "v30,0");
        Check.due("a fault at the end", x.lay(), -2);
        Check.write(x, ";");
        Check.due("no fault any more", x.lay(), 1);
        Check.due("a new bench", x.pass(0, 0, 1, 0, 0), 100);
        Check.write(x, "t1,9;");
        Check.due("the steels' fault", x.lay(), -2);
        Check.write(x, "t1,1;");
        Check.due("no fault of theirs", x.lay(), 1);
        Check.due("two steels", x.count(2), 2);
    }

    /** What was told of the bench before is forgotten: BEST and QUICK of the new one, by each steel. */
    private static void layAnew() {
        EdgeAndSpeed x = Check.laid("v10,0;p10,1,100,10;t100,2;t50,2;t200,3;t400,3;");
        for (int h = 0; h < 4; h++) {
            Check.due("best", x.value(0, h, 0, 1, 0), 54000);
            Check.due("quick", x.does(4, h, 0, 1, 0), 0);
        }
        Check.due("blind", x.blind(1), 540000);
        x.wipe();
        Check.write(x, "v1,0;v20,0;p10,1,100,20;t100,2;t50,2;t200,3;t400,3;");
        Check.due("lay", x.lay(), 1);
        for (int h = 0; h < 4; h++) {
            Check.due("best anew", x.value(0, h, 0, 1, 0), 117000);
            Check.due("best does anew", x.does(0, h, 0, 1, 0), 8);
            Check.due("quick anew", x.does(4, h, 0, 1, 0), 8);
            Check.due("quick's value anew", x.value(4, h, 0, 1, 0), 117000);
        }
        Check.due("blind anew", x.blind(1), 1170000);
        Check.due("known anew", x.blind(2), 1170000);
        x.wipe();
        Check.write(x, "v20,0;p10,1,100,0;");
        Check.due("lay", x.lay(), 1);
        Check.due("left now", x.does(0, 0, 0, 1, 0), 49);
        Check.due("judged now", x.judge(1, 0), 0);
        Check.due("one steel now", x.value(0, 1, 0, 1, 0), Long.MIN_VALUE);
    }

    /** "(at first v10,10;p10,1,100,10;)": as a bench that is laid from this text; "SPEED 0, LIMIT 100, n 8 of HANDS". */
    private static void newObject() {
        Seen.same("a new object", new EdgeAndSpeed(), laidAndWiped());
        EdgeAndSpeed x = new EdgeAndSpeed();
        Check.due("S", x.hand(0, 0), 0);
        Check.due("LIMIT", x.hand(1, 100), 100);
        Check.due("n", x.hand(2, 8), 8);
    }

    private static EdgeAndSpeed laidAndWiped() {
        EdgeAndSpeed x = Check.laid(LEAST_BENCH);
        x.wipe();
        return x;
    }
}
