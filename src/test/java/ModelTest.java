import java.util.Random;

/** Benches by the thousand figures: each answer of the class against the model's. */
final class ModelTest {
    private static final Random DICE = new Random(19161118);

    private ModelTest() {
    }

    public static void main(String[] args) {
        for (int i = 0; i < 140; i++) {
            String text = text(i);
            Model m = new Model(text);
            EdgeAndSpeed x = Check.laid(text);
            states(text, m, x);
            shops(text, m, x);
            logs(text, m, x);
        }
        for (int i = 0; i < 4000; i++) {
            faults();
        }
        for (int i = 0; i < 3000; i++) {
            lathes(i);
        }
        Check.end();
    }

    private static int upTo(int most) {
        return DICE.nextInt(most + 1);
    }

    private static int from(int least, int most) {
        return least + upTo(most - least);
    }

    /** A text that can be laid; each third one small, each third one with figures anywhere. */
    private static String text(int i) {
        StringBuilder s = new StringBuilder();
        boolean wild = i % 3 == 2;
        int speeds = i % 7 == 0 ? 6 : from(1, 6);
        for (int k = 0; k < speeds; k++) {
            s.append('v').append(from(1, wild ? 99 : 40)).append(',').append(upTo(wild ? 999 : 120)).append(';');
            s.append(extra(wild));
        }
        int pieces = i % 3 == 0 ? from(1, 3) : from(3, 8);
        for (int k = 0; k < pieces; k++) {
            s.append('p').append(from(1, 99)).append(',').append(from(1, i % 5 == 0 ? 8 : 4)).append(',');
            s.append(DICE.nextBoolean() ? upTo(100) : from(60, 100)).append(',').append(upTo(wild ? 999 : 300));
            s.append(';').append(extra(wild));
        }
        return s + steels();
    }

    private static String extra(boolean wild) {
        switch (upTo(wild ? 9 : 6)) {
            case 0: return "c" + upTo(wild ? 99 : 9) + "," + upTo(wild ? 99 : 20) + ";";
            case 1: return "h" + (upTo(5) == 0 ? 0 : upTo(wild ? 999 : 120)) + ";";
            case 2: return "k" + from(1, 8) + "," + from(wild ? 1 : 60, 999) + ";";
            case 3: return "b" + upTo(100) + "," + upTo(wild ? 100 : 30) + ";";
            case 4: return "b" + 10 * upTo(10) + "," + upTo(20) + ";b" + 10 * upTo(10) + "," + 5 * upTo(20) + ";";
            default: return "";
        }
    }

    private static String steels() {
        int many = upTo(4);
        StringBuilder s = new StringBuilder();
        int rest = 10;
        for (int h = 1; h <= many; h++) {
            int c = h == many ? rest : upTo(rest);
            rest -= c;
            s.append('t').append(from(1, DICE.nextBoolean() ? 400 : 150)).append(',').append(c).append(';');
        }
        return s.toString();
    }

    private static void states(String text, Model m, EdgeAndSpeed x) {
        m.set = upTo(m.speeds.size() - 1);
        m.limit = DICE.nextBoolean() ? upTo(100) : 100;
        m.every = from(1, 8);
        x.hand(0, m.set);
        x.hand(1, m.limit);
        x.hand(2, m.every);
        for (int w = 0; w <= 100; w += 4) {
            Check.due(text + " breaks " + w, x.breaks(w), m.breaksAt(w));
        }
        for (int steel = 0; steel < m.steels.size(); steel++) {
            for (int hand = 0; hand < 6; hand++) {
                for (int k = 0; k < 3; k++) {
                    int p = k == 0 ? 0 : upTo(m.pieces.size() - 1);
                    int left = k == 0 ? m.steps(0) : from(1, m.steps(p));
                    state(text, m, x, new int[] {hand, steel, p, left, k == 0 ? 0 : upTo(100)});
                }
                Check.due(text + " judge " + hand + " " + steel, x.judge(hand, steel), m.judge(hand, steel));
                runs(text, m, x, hand, steel, upTo(9999));
            }
            for (int h = 0; h < m.steels.size(); h++) {
                long due = m.gain(m.money, 0, steel, h, 0, m.steps(0), 0);
                Check.due(text + " guess " + steel + " " + h, x.guess(steel, h), due);
            }
            partings(text, m, x, upTo(m.pieces.size() - 1), steel, DICE.nextBoolean() ? 0 : upTo(60));
        }
        long[] blind = m.blind();
        for (int what = 0; what < 4; what++) {
            Check.due(text + " blind " + what, x.blind(what), blind[what]);
        }
    }

    private static void state(String text, Model m, EdgeAndSpeed x, int[] s) {
        String at = text + " " + m.set + " " + m.limit + " " + m.every + " hand, steel, state " + java.util.Arrays.toString(s);
        Check.due(at + " does", x.does(s[0], s[1], s[2], s[3], s[4]), m.does(s[0], s[1], s[2], s[3], s[4]));
        Check.due(at + " value", x.value(s[0], s[1], s[2], s[3], s[4]), m.gain(m.money, s[0], s[1], s[1], s[2], s[3], s[4]));
        Check.due(at + " minutes", x.mean(s[0], s[1], s[2], s[3], s[4], 0), m.gain(m.minutes, s[0], s[1], s[1], s[2], s[3], s[4]));
        Check.due(at + " spoilt", x.mean(s[0], s[1], s[2], s[3], s[4], 1), m.gain(m.spoilt, s[0], s[1], s[1], s[2], s[3], s[4]));
        if (s[0] == 0) {
            Check.due(at + " best", x.value(0, s[1], s[2], s[3], s[4]), m.best(m.money, 0, s[1], s[2], s[3], s[4]));
        }
    }

    private static void runs(String text, Model m, EdgeAndSpeed x, int hand, int steel, int z) {
        long[] due = m.run(hand, steel, z);
        for (int what = 0; what < 5; what++) {
            Check.due(text + " run " + hand + " " + steel + " " + z + " " + what, x.run(hand, steel, z, what), due[what]);
        }
    }

    private static void partings(String text, Model m, EdgeAndSpeed x, int p, int steel, int wear) {
        if (m.steps(p) > 5 && m.speeds.size() > 4) {
            return;
        }
        for (int what = 0; what < 3; what++) {
            String call = text + " parted " + p + " " + steel + " " + wear + " " + what;
            Check.due(call, x.parted(p, steel, wear, what), m.parted(p, steel, wear, what));
        }
    }

    private static void shops(String text, Model m, EdgeAndSpeed x) {
        for (int p = 0; p < m.pieces.size(); p++) {
            int t = DICE.nextBoolean() ? from(1, 500) : from(1, 9999);
            int u = upTo(99);
            int e = upTo(99);
            for (int i = 0; i < m.speeds.size(); i++) {
                Check.due(text + " earns " + p + " " + i + " " + t, x.earns(p, i, t), m.earns(p, i, t));
                Check.due(text + " takes " + p + " " + i, x.pass(p, i, 1, 0, 0), m.takes(p, i));
                int d = from(1, 8);
                int h = upTo(m.steels.size() - 1);
                Check.due(text + " wears " + p + " " + i + " " + d, x.pass(p, i, d, h, 1), m.wears(p, i, d, h));
                Check.due(text + " may be " + p + " " + i + " " + d, x.pass(p, i, d, h, 2), m.mayBe(i, d) ? 1 : 0);
            }
            Check.due(text + " shop " + p + " " + t, x.shop(p, t), m.shop(p, t));
            Check.due(text + " lathe " + p, x.shop(p, 1), m.shop(p, 1));
            Check.due(text + " man " + p + " " + u + " " + e, x.pay(p, u, e, 0), m.man(p, u, e));
            Check.due(text + " pay " + p + " " + u + " " + e, x.pay(p, u, e, 1), m.pay(p, u, e));
            Check.due(text + " best pay " + p + " " + e, x.bestPay(p, e), m.bestPay(p, e));
            Check.due(text + " best pay " + p, x.bestPay(p, e % 4), m.bestPay(p, e % 4));
        }
    }

    private static void logs(String text, Model m, EdgeAndSpeed x) {
        int tries = upTo(60);
        for (int k = 0; k < tries; k++) {
            int p = upTo(m.pieces.size() - 1);
            int left = from(1, m.steps(p));
            int[] row = {p, left, upTo(100), upTo(8 * m.speeds.size())};
            boolean can = m.canLog(p, left, row[2], row[3]);
            int due = !can ? -1 : m.log.size() == 20 ? -3 : m.log.size() + 1;
            Check.due(text + " log", x.log(p, left, row[2], row[3]), due);
            if (due > 0) {
                m.log.add(row);
            }
        }
        int[] rule = m.plainest();
        for (int what = 0; what < 4; what++) {
            Check.due(text + " plainest " + what, x.plainest(what), rule[what]);
        }
        int i = upTo(m.speeds.size() - 1);
        int a = upTo(100);
        int j = upTo(m.speeds.size() - 1);
        Check.due(text + " off " + i + " " + a + " " + j, x.off(i, a, j), m.off(i, a, j));
    }

    /** A text in which one byte, it may be, is another. */
    private static void faults() {
        StringBuilder s = new StringBuilder(text(3 * upTo(30) + upTo(2)));
        int many = upTo(3);
        for (int k = 0; k < many; k++) {
            String bytes = "0123456789,;vpbchkt x" + (char) upTo(255);
            s.setCharAt(upTo(s.length() - 1), bytes.charAt(upTo(bytes.length() - 1)));
        }
        Model m = new Model(s.toString());
        EdgeAndSpeed x = new EdgeAndSpeed();
        Check.write(x, s.toString());
        Check.due("fault of " + s, x.fault(), m.fault);
        Check.due("lay of " + s, x.lay(), m.canLay() ? m.pieces.size() : -2);
    }

    private static void lathes(int i) {
        int a = i % 2 == 0 ? from(1, 99) : from(1, 12);
        int x = from(1, i % 2 == 0 ? 30 : 5);
        int b = i % 3 == 0 ? from(1, 99) : from(1, 12);
        int y = from(1, i % 5 == 0 ? 5 : 30);
        int[] due = Model.two(a, x, b, y);
        EdgeAndSpeed s = new EdgeAndSpeed();
        for (int what = 0; what < 3; what++) {
            Check.due("two " + a + " " + x + " " + b + " " + y + " " + what, s.two(a, x, b, y, what), due[what]);
        }
    }
}
