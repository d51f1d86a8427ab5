/** Counts answers that are due and those that are not; each test ends with end(). */
final class Check {
    private static int passed;
    private static int failed;

    private Check() {
    }

    static void due(String call, long got, long want) {
        if (got == want) {
            passed++;
            return;
        }
        failed++;
        System.out.println(call + " answered " + got + ", due is " + want);
    }

    static void holds(String what, boolean so) {
        due(what, so ? 1 : 0, 1);
    }

    static void end() {
        System.out.println(passed + " answers as due, " + failed + " not");
        if (failed > 0 || passed == 0) {
            System.exit(1);
        }
    }

    /** Writes a text behind THE TEXT, eight bytes a call. */
    static int write(EdgeAndSpeed x, String text) {
        int length = x.count(3);
        for (int i = 0; i < text.length(); i += 8) {
            int n = Math.min(8, text.length() - i);
            long v = 0;
            for (int k = 0; k < n; k++) {
                v = v << 8 | text.charAt(i + k) & 255;
            }
            length = x.write(n, v);
        }
        return length;
    }

    /** A new object with this text laid. */
    static EdgeAndSpeed laid(String text) {
        EdgeAndSpeed x = new EdgeAndSpeed();
        write(x, text);
        if (x.lay() < 1) {
            holds("laid: " + text, false);
        }
        return x;
    }

    /** FAULT of a text on a new object. */
    static int fault(String text) {
        EdgeAndSpeed x = new EdgeAndSpeed();
        write(x, text);
        return x.fault();
    }
}
