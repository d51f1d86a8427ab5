import java.util.ArrayList;
import java.util.Arrays;
import java.util.HashMap;
import java.util.HashSet;
import java.util.List;
import java.util.Map;
import java.util.Set;
import java.util.regex.Matcher;
import java.util.regex.Pattern;

/** The document told again in the slowest and plainest way, to hold the class against. */
final class Model {
    static final long LEAST = Long.MIN_VALUE;
    static final int CHANGE = 48;
    static final int LEAVE = 49;

    /** What a done piece, a spoilt one, hundredths of minutes and pence count for. */
    interface Scale {
        long done(int pence);

        long spoilt();

        long spent(long minutes, long pence);
    }

    private static final String[] FORMS = {"v2", "p4", "b2", "c2", "h1", "k2", "t2"};
    private static final Map<Character, int[]> RANGES = new HashMap<>();

    static {
        RANGES.put('v', new int[] {1, 99, 0, 999});
        RANGES.put('p', new int[] {1, 99, 1, 8, 0, 100, 0, 999});
        RANGES.put('b', new int[] {0, 100, 0, 100});
        RANGES.put('c', new int[] {0, 99, 0, 99});
        RANGES.put('h', new int[] {0, 999});
        RANGES.put('k', new int[] {1, 8, 1, 999});
        RANGES.put('t', new int[] {1, 400, 0, 10});
    }

    final List<int[]> speeds = new ArrayList<>();
    final List<int[]> pieces = new ArrayList<>();
    final List<int[]> breaks = new ArrayList<>();
    final List<int[]> steels = new ArrayList<>();
    int[] change = {4, 9};
    int[] hour = {60};
    int[] most = {8, 999};
    int fault = -4;
    int set = 0;
    int limit = 100;
    int every = 8;
    final List<int[]> log = new ArrayList<>();
    private final Map<String, Integer> acts = new HashMap<>();

    Model(String text) {
        int place = 0;
        while (place < text.length()) {
            int end = item(text, place);
            if (end < 0) {
                fault = place;
                return;
            }
            place = end;
        }
        if (steels.isEmpty()) {
            steels.add(new int[] {100, 10});
        }
        int sum = 0;
        for (int[] t : steels) {
            sum += t[1];
        }
        if (sum != 10) {
            fault = text.length();
        }
    }

    private int item(String text, int place) {
        for (String form : FORMS) {
            StringBuilder pattern = new StringBuilder().append(form.charAt(0)).append("([0-9]{1,3})");
            for (int i = 1; i < form.charAt(1) - '0'; i++) {
                pattern.append(",([0-9]{1,3})");
            }
            Matcher m = Pattern.compile(pattern.append(";").toString()).matcher(text);
            m.region(place, text.length());
            if (m.lookingAt()) {
                int[] told = new int[m.groupCount()];
                int[] range = RANGES.get(form.charAt(0));
                for (int i = 0; i < told.length; i++) {
                    told[i] = Integer.parseInt(m.group(i + 1));
                    if (told[i] < range[2 * i] || told[i] > range[2 * i + 1]) {
                        return -1;
                    }
                }
                return put(form.charAt(0), told) ? m.end() : -1;
            }
        }
        return -1;
    }

    private boolean put(char letter, int[] told) {
        switch (letter) {
            case 'v': speeds.add(told); return speeds.size() <= 6;
            case 'p': pieces.add(told); return pieces.size() <= 8;
            case 't': steels.add(told); return steels.size() <= 4;
            case 'b': breaks.add(told); return true;
            case 'c': change = told; return true;
            case 'h': hour = told; return true;
            default: most = told; return true;
        }
    }

    boolean canLay() {
        return fault == -4 && !speeds.isEmpty() && !pieces.isEmpty();
    }

    int breaksAt(int wear) {
        int[] best = {-1, 0};
        for (int[] b : breaks) {
            if (wear >= b[0] && b[0] >= best[0]) {
                best = b;
            }
        }
        return best[1];
    }

    int takes(int piece, int speed) {
        return (int) Math.ceil(100.0 * pieces.get(piece)[0] / speeds.get(speed)[0]);
    }

    int wears(int piece, int speed, int d, int steel) {
        return pieces.get(piece)[0] * speeds.get(speed)[1] * d * steels.get(steel)[0] / 10000;
    }

    boolean mayBe(int speed, int d) {
        return d <= most[0] && speeds.get(speed)[0] * d <= most[1];
    }

    int steps(int piece) {
        return pieces.get(piece)[1];
    }

    List<Integer> canDo(int left, int wear) {
        List<Integer> can = new ArrayList<>();
        for (int speed = 0; speed < speeds.size(); speed++) {
            for (int d = 1; d <= left; d++) {
                if (mayBe(speed, d)) {
                    can.add(8 * speed + d - 1);
                }
            }
        }
        if (wear > 0) {
            can.add(CHANGE);
        }
        can.add(LEAVE);
        return can;
    }

    final Scale money = new Scale() {
        public long done(int pence) {
            return 6000L * pence;
        }

        public long spoilt() {
            return 0;
        }

        public long spent(long minutes, long pence) {
            return -(minutes * hour[0] + 6000 * pence);
        }
    };
    final Scale haste = new Scale() {
        public long done(int pence) {
            return 100000;
        }

        public long spoilt() {
            return 0;
        }

        public long spent(long minutes, long pence) {
            return -minutes;
        }
    };
    final Scale minutes = new Scale() {
        public long done(int pence) {
            return 0;
        }

        public long spoilt() {
            return 0;
        }

        public long spent(long minutes, long pence) {
            return minutes;
        }
    };
    final Scale spoilt = new Scale() {
        public long done(int pence) {
            return 0;
        }

        public long spoilt() {
            return 1000000;
        }

        public long spent(long minutes, long pence) {
            return 0;
        }
    };

    /** What is done in each state: a hand by a steel. */
    int does(int hand, int steel, int p, int left, int wear) {
        switch (hand) {
            case 0: return bestAct(money, 0, steel, p, left, wear);
            case 4: return bestAct(haste, 4, steel, p, left, wear);
            case 1: return setAct(set, p, left, wear, wear);
            case 3: return setAct(set, p, left, wear, wear / 10 * 10);
            case 5: return setAct(leastWearing(), p, left, wear, wear);
            default: break;
        }
        int act = setAct(set, p, left, 0, 0);
        boolean turn = left == steps(p) && p != 0 && p % every == 0 && wear > 0;
        return act != LEAVE && turn ? CHANGE : act;
    }

    private int leastWearing() {
        int best = 0;
        for (int i = 0; i < speeds.size(); i++) {
            if (speeds.get(i)[1] < speeds.get(best)[1]) {
                best = i;
            }
        }
        return best;
    }

    private int setAct(int speed, int p, int left, int wear, int seen) {
        for (int d = left; d > 0; d--) {
            if (mayBe(speed, d)) {
                boolean last = d == left;
                return seen > limit || last && seen > pieces.get(p)[2] ? CHANGE : 8 * speed + d - 1;
            }
        }
        return LEAVE;
    }

    private final Map<String, Long> bestGains = new HashMap<>();

    private int bestAct(Scale scale, int hand, int steel, int p, int left, int wear) {
        best(scale, hand, steel, p, left, wear);
        return acts.get(hand + " " + steel + " " + p + " " + left + " " + wear);
    }

    long best(Scale scale, int hand, int steel, int p, int left, int wear) {
        if (p == pieces.size()) {
            return 0;
        }
        String key = hand + " " + steel + " " + p + " " + left + " " + wear;
        Long known = bestGains.get(key);
        if (known != null) {
            return known;
        }
        long most = 0;
        int act = -1;
        for (int a : canDo(left, wear)) {
            long gain = ofAct(scale, a, steel, p, left, wear, (q, l, w) -> best(scale, hand, steel, q, l, w));
            if (act < 0 || gain > most) {
                most = gain;
                act = a;
            }
        }
        bestGains.put(key, most);
        acts.put(key, act);
        return most;
    }

    interface On {
        long gain(int p, int left, int wear);
    }

    private long begin(On on, int p, int wear) {
        return p == pieces.size() ? 0 : on.gain(p, steps(p), wear);
    }

    private long ofAct(Scale scale, int act, int steel, int p, int left, int wear, On on) {
        long changing = scale.spent(100L * change[0], change[1]);
        if (act == CHANGE) {
            return on.gain(p, left, 0) + changing;
        }
        if (act == LEAVE) {
            return scale.spoilt() + begin(on, p + 1, wear);
        }
        int speed = act / 8;
        int d = act % 8 + 1;
        int wears = wears(p, speed, d, steel);
        int risk = wear + wears > 100 ? 100 : breaksAt(wear);
        long whole = 0;
        long broken = 0;
        if (risk > 0) {
            broken = scale.spoilt() + changing + begin(on, p + 1, 0);
        }
        if (risk < 100 && d < left) {
            whole = on.gain(p, left - d, wear + wears);
        } else if (risk < 100) {
            boolean fine = wear <= pieces.get(p)[2];
            whole = (fine ? scale.done(pieces.get(p)[3]) : scale.spoilt()) + begin(on, p + 1, wear + wears);
        }
        return ((100 - risk) * whole + risk * broken) / 100 + scale.spent(takes(p, speed), 0);
    }

    /** What comes of a hand that thinks of a steel in another. */
    long gain(Scale scale, int hand, int thought, int steel, int p, int left, int wear) {
        return gain(scale, hand, thought, steel, p, left, wear, new HashMap<>());
    }

    private long gain(Scale s, int hand, int thought, int steel, int p, int left, int wear, Map<Integer, Long> known) {
        int key = (p * 10 + left) * 1000 + wear;
        if (!known.containsKey(key)) {
            int act = does(hand, thought, p, left, wear);
            long gain = ofAct(s, act, steel, p, left, wear, (q, l, w) -> gain(s, hand, thought, steel, q, l, w, known));
            known.put(key, gain);
        }
        return known.get(key);
    }

    int judge(int hand, int steel) {
        Set<List<Integer>> seen = new HashSet<>();
        List<List<Integer>> open = new ArrayList<>();
        open.add(Arrays.asList(0, steps(0), 0));
        int first = Integer.MAX_VALUE;
        while (!open.isEmpty()) {
            List<Integer> s = open.remove(open.size() - 1);
            if (s.get(0) == pieces.size() || !seen.add(s)) {
                continue;
            }
            int p = s.get(0);
            int left = s.get(1);
            int wear = s.get(2);
            int act = does(hand, steel, p, left, wear);
            long gain = ofAct(money, act, steel, p, left, wear, (q, l, w) -> best(money, 0, steel, q, l, w));
            if (gain < best(money, 0, steel, p, left, wear)) {
                first = Math.min(first, 1000 * p + 101 * (steps(p) - left) + wear);
            }
            open.addAll(behind(act, steel, p, left, wear));
        }
        return first == Integer.MAX_VALUE ? -4 : first;
    }

    private List<Integer> start(int p, int wear) {
        return Arrays.asList(p, p == pieces.size() ? 0 : steps(p), wear);
    }

    private List<List<Integer>> behind(int act, int steel, int p, int left, int wear) {
        List<List<Integer>> all = new ArrayList<>();
        if (act == CHANGE) {
            all.add(Arrays.asList(p, left, 0));
        } else if (act == LEAVE) {
            all.add(start(p + 1, wear));
        } else {
            int d = act % 8 + 1;
            int then = wear + wears(p, act / 8, d, steel);
            int risk = then > 100 ? 100 : breaksAt(wear);
            if (risk > 0) {
                all.add(start(p + 1, 0));
            }
            if (risk < 100) {
                all.add(d == left ? start(p + 1, then) : Arrays.asList(p, left - d, then));
            }
        }
        return all;
    }

    /** Every row of passes, one by one: cost, passes, first. */
    long parted(int p, int steel, int wear, int what) {
        long[] best = {-4, -4, -4};
        rows(p, steel, steps(p), wear, new long[] {0, 0, -1}, best);
        return best[what];
    }

    private void rows(int p, int steel, int left, int wear, long[] row, long[] best) {
        if (left == 0) {
            boolean none = best[0] == -4;
            if (none || row[0] < best[0] || row[0] == best[0] && row[1] < best[1]
                    || row[0] == best[0] && row[1] == best[1] && row[2] < best[2]) {
                System.arraycopy(row, 0, best, 0, 3);
            }
            return;
        }
        if (best[0] >= 0 && row[0] > best[0]) {
            return;
        }
        for (int act : canDo(left, 0)) {
            int d = act % 8 + 1;
            if (act >= CHANGE || wear + wears(p, act / 8, d, steel) > 100) {
                continue;
            }
            if (d == left && wear > pieces.get(p)[2]) {
                continue;
            }
            long cost = row[0] - money.spent(takes(p, act / 8), 0);
            long[] longer = {cost, row[1] + 1, row[2] < 0 ? act : row[2]};
            rows(p, steel, left - d, wear + wears(p, act / 8, d, steel), longer, best);
        }
    }

    long[] blind() {
        long most = LEAST;
        int best = -1;
        long known = 0;
        for (int g = 0; g < steels.size(); g++) {
            long sum = 0;
            for (int h = 0; h < steels.size(); h++) {
                sum += steels.get(h)[1] * gain(money, 0, g, h, 0, steps(0), 0);
            }
            if (best < 0 || sum > most) {
                most = sum;
                best = g;
            }
            known += steels.get(g)[1] * best(money, 0, g, 0, steps(0), 0);
        }
        return new long[] {best, most, known, known - most};
    }

    /** The man and the lathes minute by minute. */
    static int[] two(int a, int x, int b, int y) {
        int[] runs = {a, b};
        int[] serves = {x, y};
        int[] wantsAt = {a, b};
        int served = -1;
        int until = 0;
        Map<Integer, Integer> seen = new HashMap<>();
        List<int[]> servings = new ArrayList<>();
        for (int now = 0; now <= 20000; now++) {
            boolean firstBegins = now == 0;
            if (served >= 0 && until == now) {
                wantsAt[served] = now + runs[served];
                firstBegins = served == 0;
                served = -1;
            }
            if (firstBegins) {
                Integer earlier = seen.putIfAbsent(wantsAt[1] - now, now);
                if (earlier != null) {
                    int waits = 0;
                    for (int[] s : servings) {
                        waits += s[0] >= earlier && s[0] < now ? s[1] : 0;
                    }
                    return new int[] {now - earlier, waits, earlier};
                }
            }
            if (served < 0) {
                int next = wantsAt[0] <= wantsAt[1] ? 0 : 1;
                if (wantsAt[next] <= now) {
                    served = next;
                    until = now + serves[next];
                    servings.add(new int[] {now, now - wantsAt[next]});
                }
            }
        }
        return new int[] {-4, -4, -4};
    }

    private long time(int p, int i) {
        return takes(p, i) + (long) wears(p, i, steps(p), 0) * change[0];
    }

    long earns(int p, int i, int t) {
        if (!mayBe(i, steps(p))) {
            return LEAST + 2;
        }
        long wear = wears(p, i, steps(p), 0);
        long sum = 6000L * pieces.get(p)[3] - 60 * wear * change[1];
        return sum * 6000 / Math.max(time(p, i), t) - 6000L * hour[0];
    }

    int shop(int p, int t) {
        int best = -4;
        for (int i = 0; i < speeds.size(); i++) {
            if (mayBe(i, steps(p)) && (best < 0 || earns(p, i, t) > earns(p, best, t))) {
                best = i;
            }
        }
        return best;
    }

    private long gets(int p, int i, int u) {
        return 6000L * u * 6000 / time(p, i);
    }

    int man(int p, int u, int e) {
        int best = -4;
        long most = 0;
        for (int i = 0; i < speeds.size(); i++) {
            long has = gets(p, i, u) - 6000L * e * speeds.get(i)[0];
            if (mayBe(i, steps(p)) && (best < 0 || has > most)) {
                best = i;
                most = has;
            }
        }
        return best;
    }

    long pay(int p, int u, int e) {
        int i = man(p, u, e);
        return i < 0 ? LEAST + 4 : earns(p, i, 1) - gets(p, i, u);
    }

    int bestPay(int p, int e) {
        int best = -4;
        for (int u = 0; u < 100; u++) {
            if (man(p, u, e) >= 0 && (best < 0 || pay(p, u, e) > pay(p, best, e))) {
                best = u;
            }
        }
        return best;
    }

    /** Whether a row of LOG can be: state and pass. */
    boolean canLog(int p, int left, int wear, int act) {
        return act < CHANGE && canDo(left, wear).contains(act);
    }

    int off(int i, int a, int j) {
        int off = 0;
        for (int[] row : log) {
            off += (row[2] < a ? i : j) == row[3] / 8 ? 0 : 1;
        }
        return off;
    }

    int[] plainest() {
        List<int[]> rules = new ArrayList<>();
        for (int i = 0; i < speeds.size(); i++) {
            rules.add(new int[] {i, 0, i, off(i, 0, i)});
        }
        for (int i = 0; i < speeds.size(); i++) {
            for (int a = 0; a <= 100; a++) {
                for (int j = 0; j < speeds.size(); j++) {
                    if (i != j) {
                        rules.add(new int[] {i, a, j, off(i, a, j)});
                    }
                }
            }
        }
        int[] best = rules.get(0);
        for (int[] rule : rules) {
            best = rule[3] < best[3] ? rule : best;
        }
        return best;
    }

    long[] run(int hand, int steel, int z) {
        long time = 0;
        long done = 0;
        long lost = 0;
        long changes = 0;
        long t = 0;
        int p = 0;
        int left = steps(0);
        int wear = 0;
        while (p < pieces.size()) {
            int act = does(hand, steel, p, left, wear);
            boolean over = act == LEAVE;
            if (act == CHANGE) {
                wear = 0;
                changes++;
            } else if (act == LEAVE) {
                lost++;
            } else {
                int d = act % 8 + 1;
                int wears = wears(p, act / 8, d, steel);
                long x = 7919L * z + 6151 * t + 1;
                t++;
                time += takes(p, act / 8);
                if (x * x % 65521 % 100 < (wear + wears > 100 ? 100 : breaksAt(wear))) {
                    lost++;
                    changes++;
                    wear = 0;
                    over = true;
                } else {
                    left -= d;
                    over = left == 0;
                    boolean fine = wear <= pieces.get(p)[2];
                    done += over && fine ? 1 : 0;
                    lost += over && !fine ? 1 : 0;
                    wear += wears;
                }
            }
            if (over) {
                p++;
                left = p < pieces.size() ? steps(p) : 0;
            }
        }
        time += 100 * changes * change[0];
        return new long[] {time, time * hour[0] + 6000 * changes * change[1], done, lost, changes};
    }
}
