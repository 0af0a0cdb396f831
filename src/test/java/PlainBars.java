import java.math.BigInteger;
import java.util.ArrayList;
import java.util.Arrays;
import java.util.List;

/** The document once more, in the slowest and plainest words, for ModelTest to compare with. */
final class PlainBars {
    private static final int LOW = -1000000;

    static final class World {
        int[] clock = new int[3];
        List<Integer> house = new ArrayList<>();
        List<int[]> ring = new ArrayList<>();
        List<Integer> strip = new ArrayList<>();
        String[] text = new String[9];
        List<int[]> counting = new ArrayList<>();
        List<Integer> line = new ArrayList<>();
        List<Integer> let = new ArrayList<>();
        List<int[]> quiet = new ArrayList<>();
        int[] weight = {1, 1, 1, 1, 1, 1};
        int[] year = new int[8];
        int z = 1;
        List<Integer> waits = new ArrayList<>();

        World copy() {
            World w = new World();
            w.clock = clock.clone();
            w.house = new ArrayList<>(house);
            w.ring = new ArrayList<>(ring);
            w.strip = new ArrayList<>(strip);
            w.text = text.clone();
            w.counting = new ArrayList<>(counting);
            w.line = new ArrayList<>(line);
            w.let = new ArrayList<>(let);
            w.quiet = new ArrayList<>(quiet);
            w.weight = weight.clone();
            w.year = year.clone();
            w.z = z;
            w.waits = new ArrayList<>(waits);
            return w;
        }
    }

    private World o = new World();
    private World img;
    private int images;
    private final int[] told = new int[6];
    private final List<Integer> trace = new ArrayList<>();
    private final Object[] sheet = new Object[4];

    private int err(int k) {
        told[k]++;
        return LOW - k;
    }

    private static boolean out(int v, int a, int b) {
        return v < a || v > b;
    }

    private boolean noBar(int b) {
        return out(b, 0, o.house.size() - 1);
    }

    private boolean noPair(int ab) {
        return ab < 0 || noBar(ab / 10) || noBar(ab % 10) || ab / 10 == ab % 10;
    }

    private int shown(int r) {
        int[] x = o.ring.get(r);
        return x[1] + o.clock[o.house.get(x[0])];
    }

    private List<Integer> tape(int bar) {
        List<Integer> t = new ArrayList<>();
        for (int r = 0; r < o.ring.size(); r++) {
            if (o.ring.get(r)[0] == bar) {
                t.add(r);
            }
        }
        t.sort((p, q) -> shown(p) != shown(q) ? Integer.compare(shown(p), shown(q)) : Integer.compare(p, q));
        return t;
    }

    private int gap(int r) {
        List<Integer> t = tape(o.ring.get(r)[0]);
        int i = t.indexOf(r);
        return i == 0 ? 999 : Math.min(999, shown(r) - shown(t.get(i - 1)));
    }

    private boolean cnt(int r, int l) {
        int[] x = o.ring.get(r);
        if (x[2] <= l) {
            return false;
        }
        String way = o.text[o.house.get(x[0])];
        return way == null || eval(way, "hgtb", x[2], gap(r), ((shown(r) % 240) + 240) % 240, x[0]) != 0;
    }

    private List<Integer> counted(int bar, int l) {
        List<Integer> t = tape(bar);
        t.removeIf(r -> !cnt(r, l));
        return t;
    }

    private List<Integer> meeting(int ab, int l, int w, int d) {
        List<Integer> as = counted(ab / 10, l);
        List<Integer> bs = counted(ab % 10, l);
        as.removeIf(a -> bs.stream().noneMatch(b -> Math.abs(shown(b) + d - shown(a)) <= w));
        return as;
    }

    private int m(int ab, int l, int w, int d) {
        return meeting(ab, l, w, d).size();
    }

    // ---- texts: a FAULT is found by asking of ever longer beginnings whether a TEXT goes on so

    /** The value of a whole TEXT; each operator is looked for from the right, weakest first. */
    static int eval(String s, String names, int... values) {
        for (String level : new String[] {"|", "&", "<=>", "+-", "*/%"}) {
            int deep = 0;
            for (int i = s.length() - 1; i >= 0; i--) {
                char c = s.charAt(i);
                deep += c == ')' ? 1 : c == '(' ? -1 : 0;
                if (deep == 0 && level.indexOf(c) >= 0) {
                    return op(c, eval(s.substring(0, i), names, values), eval(s.substring(i + 1), names, values));
                }
            }
        }
        char c = s.charAt(0);
        if (c == '!') {
            return eval(s.substring(1), names, values) == 0 ? 1 : 0;
        }
        if (c == '(') {
            return eval(s.substring(1, s.length() - 1), names, values);
        }
        return Character.isDigit(c) ? Integer.parseInt(s) : values[names.indexOf(c)];
    }

    private static int op(char c, int a, int b) {
        switch (c) {
            case '|': return a != 0 | b != 0 ? 1 : 0;
            case '&': return a != 0 & b != 0 ? 1 : 0;
            case '<': return a < b ? 1 : 0;
            case '=': return a == b ? 1 : 0;
            case '>': return a > b ? 1 : 0;
            case '+': return a + b;
            case '-': return a - b;
            case '*': return a * b;
            case '/': return b == 0 ? 0 : (int) ((long) a / b);
            default: return b == 0 ? 0 : (int) ((long) a % b);
        }
    }

    /** Walks bytes with a stack of what is open; -1 if all is a TEXT, else its FAULT. */
    static int fault(String s, String names) {
        List<Character> open = new ArrayList<>();
        List<Boolean> compared = new ArrayList<>(List.of(false));
        boolean wantsOperand = true;
        int digits = 0;
        for (int i = 0; i < s.length(); i++) {
            char c = s.charAt(i);
            boolean digit = c >= '0' && c <= '9';
            if (wantsOperand) {
                if (c == '!' || c == '(') {
                    if (open.size() == 5) {
                        return i;
                    }
                    open.add(c);
                    if (c == '(') {
                        compared.add(false);
                    }
                    continue;
                }
                if (!digit && names.indexOf(c) < 0) {
                    return i;
                }
                digits = digit ? 1 : 0;
                wantsOperand = false;
            } else if (digit) {
                if (digits == 0 || digits == 4) {
                    return i;
                }
                digits++;
                continue;
            } else if (c == ')') {
                if (open.isEmpty()) {
                    return i;
                }
                open.remove(open.size() - 1);
                compared.remove(compared.size() - 1);
                digits = 0;
            } else if ("<=>".indexOf(c) >= 0) {
                if (compared.get(compared.size() - 1)) {
                    return i;
                }
                compared.set(compared.size() - 1, true);
                wantsOperand = true;
            } else if ("|&+-*/%".indexOf(c) >= 0) {
                if (c == '|' || c == '&') {
                    compared.set(compared.size() - 1, false);
                }
                wantsOperand = true;
            } else {
                return i;
            }
            if (!wantsOperand) {
                while (!open.isEmpty() && open.get(open.size() - 1) == '!') {
                    open.remove(open.size() - 1);
                }
            }
        }
        return wantsOperand || !open.isEmpty() ? s.length() : -1;
    }

    private int lawOf(int law, int n, int y) {
        return o.text[3 + law] == null ? 1 : Math.max(0, Math.min(9, eval(o.text[3 + law], "ny", n, y)));
    }

    private static BigInteger[] lowest(BigInteger a, BigInteger b) {
        if (a.signum() == 0) {
            return new BigInteger[] {BigInteger.ZERO, BigInteger.ONE};
        }
        BigInteger g = a.gcd(b);
        return new BigInteger[] {a.divide(g), b.divide(g)};
    }

    // ---- the face

    public int clock(int house, int v) {
        if (out(house, 0, 2) || out(v, -999, 999)) return err(1);
        int was = o.clock[house];
        o.clock[house] = v;
        return was;
    }

    public int bar(int house) {
        if (out(house, 0, 2)) return err(1);
        if (o.house.size() == 6) return err(4);
        o.house.add(house);
        return o.house.size() - 1;
    }

    public int ring(int bar, int tenth, int height) {
        if (noBar(bar) || out(tenth, 0, 9999) || out(height, 1, 999)) return err(1);
        if (o.ring.size() == 96) return err(4);
        o.ring.add(new int[] {bar, tenth, height});
        return o.ring.size() - 1;
    }

    public int ringOf(int ring, int what) {
        if (out(ring, 0, o.ring.size() - 1) || out(what, 0, 4)) return err(1);
        return what < 3 ? o.ring.get(ring)[what] : what == 3 ? shown(ring) : gap(ring);
    }

    public int onTape(int bar, int i) {
        if (noBar(bar) || i < 0) return err(1);
        List<Integer> t = tape(bar);
        return i < t.size() ? t.get(i) : err(2);
    }

    public int counts(int ring, int l) {
        if (out(ring, 0, o.ring.size() - 1) || out(l, 0, 999)) return err(1);
        return cnt(ring, l) ? 1 : 0;
    }

    public int rows(int bar, int s) {
        if (noBar(bar) || out(s, 0, 3)) return err(1);
        if (sheet[s] == null) return err(2);
        int n = length(s);
        int came = 0;
        for (int i = 0; i + 1 < n; i += 2) {
            int t = get(s, i);
            int h = get(s, i + 1);
            if (out(t, 0, 9999) || out(h, 1, 999) || o.ring.size() == 96) break;
            o.ring.add(new int[] {bar, t, h});
            came++;
        }
        return came;
    }

    public int feed(long word, int n) {
        if (out(n, 1, 8)) return err(1);
        if (o.strip.size() + n > 50) return err(4);
        for (int i = 0; i < n; i++) {
            o.strip.add((int) (word & 0xff));
            word >>= 8;
        }
        return o.strip.size();
    }

    public int text(int use) {
        if (out(use, 0, 8)) return err(1);
        StringBuilder b = new StringBuilder();
        for (int c : o.strip) b.append((char) c);
        o.strip.clear();
        int f = fault(b.toString(), use < 3 ? "hgtb" : "ny");
        if (f >= 0) return -10 - f;
        o.text[use] = b.toString();
        return 1;
    }

    public int law(int law, int n, int y) {
        return out(law, 0, 5) ? err(1) : lawOf(law, n, y);
    }

    public int meets(int ab, int l, int w, int d) {
        if (noPair(ab) || out(l, 0, 999) || out(w, 0, 50) || out(d, -9999, 9999)) return err(1);
        return m(ab, l, w, d);
    }

    public int counting(int kind, int ab, int l, int w, int d) {
        if (out(kind, 0, 7) || noPair(ab) || out(l, 0, 999) || out(w, 0, 50) || out(d, 1, 999)) return err(1);
        if (o.counting.size() == 12) return err(4);
        o.counting.add(new int[] {kind, ab, l, w, d});
        return o.counting.size() - 1;
    }

    private boolean noCounting(int c) {
        return out(c, 0, o.counting.size() - 1);
    }

    public int as(int counting, int kind) {
        if (noCounting(counting) || out(kind, 0, 7)) return err(1);
        int own = o.counting.get(counting)[0];
        if (own != kind && kind != 0 && !(own == 7 && kind == 6)) return err(5);
        return o.counting.get(counting)[2];
    }

    public int gives(int counting) {
        if (noCounting(counting)) return err(1);
        int[] c = o.counting.get(counting);
        int ab = c[1];
        int l = c[2];
        int w = c[3];
        int d = c[4];
        int warm = (m(ab, l, w, d) + m(ab, l, w, 2 * d) + m(ab, l, w, 3 * d) + m(ab, l, w, 4 * d) + m(ab, l, w, 5 * d)) / 5;
        int plain = m(ab, l, w, 0);
        switch (c[0]) {
            case 1: return warm;
            case 2: return Math.max(0, plain - warm);
            case 3: return counted(ab / 10, l).size() - plain;
            case 4:
                int best = Integer.MIN_VALUE;
                for (int x = l; x <= 999; x += 50) best = Math.max(best, m(ab, x, w, 0) - m(ab, x, w, d));
                return best;
            case 5:
                int more = 0;
                for (int b : counted(ab % 10, l)) {
                    int near = 0;
                    for (int a : counted(ab / 10, l)) if (Math.abs(shown(a) - shown(b)) <= w) near++;
                    if (near >= 2) more++;
                }
                return plain + more;
            case 6: return m(ab, l, w, d);
            case 7: return m(ab, l, w, o.clock[o.house.get(ab / 10)] - o.clock[o.house.get(ab % 10)]);
            default: return plain;
        }
    }

    public int chance(int counting, int slides, int part) {
        if (noCounting(counting) || out(slides, 1, 40) || out(part, 0, 1)) return err(1);
        int[] c = o.counting.get(counting);
        int no = 0;
        for (int s = 1; s <= slides; s++) if (m(c[1], c[2], c[3], s * c[4]) >= m(c[1], c[2], c[3], 0)) no++;
        return lowest(BigInteger.valueOf(no), BigInteger.valueOf(slides))[part].intValue();
    }

    public int ahead(int counting, int slides, int x) {
        if (noCounting(counting) || out(slides, 1, 40) || out(x, 0, 100)) return err(1);
        int[] c = o.counting.get(counting);
        int[] ms = new int[slides];
        for (int s = 1; s <= slides; s++) ms[s - 1] = m(c[1], c[2], c[3], s * c[4]);
        for (int k = 0; ; k++) {
            int kk = k;
            if (Arrays.stream(ms).filter(v -> v >= kk).count() * 100 <= (long) x * slides) return k;
        }
    }

    public int line(int l) {
        if (out(l, 0, 999)) return err(1);
        if (o.line.size() == 6) return err(4);
        o.line.add(l);
        return o.line.size() - 1;
    }

    private int score(int[] c, int l, int slides, int s) {
        int sum = 0;
        for (int i = 1; i <= slides; i++) sum += m(c[1], l, c[3], i * c[4]);
        return slides * m(c[1], l, c[3], s * c[4]) - sum;
    }

    public int chosen(int counting, int slides) {
        if (noCounting(counting) || out(slides, 1, 40)) return err(1);
        if (o.line.isEmpty()) return err(2);
        int[] c = o.counting.get(counting);
        int best = -1;
        int top = 0;
        for (int i = 0; i < o.line.size(); i++) {
            int sc = score(c, o.line.get(i), slides, 0);
            if (best < 0 || sc > top) {
                best = i;
                top = sc;
            }
        }
        return best;
    }

    public int paid(int counting, int slides, int part) {
        if (noCounting(counting) || out(slides, 1, 40) || out(part, 0, 1)) return err(1);
        if (o.line.isEmpty()) return err(2);
        int[] c = o.counting.get(counting);
        int no = 0;
        for (int s = 1; s <= slides; s++) if (top(c, slides, s) >= top(c, slides, 0)) no++;
        return lowest(BigInteger.valueOf(no), BigInteger.valueOf(slides))[part].intValue();
    }

    private int top(int[] c, int slides, int s) {
        int top = Integer.MIN_VALUE;
        for (int l : o.line) top = Math.max(top, score(c, l, slides, s));
        return top;
    }

    public int let(int tenth) {
        if (out(tenth, 0, 9999)) return err(1);
        if (o.let.size() == 10) return err(4);
        o.let.add(tenth);
        return o.let.size() - 1;
    }

    public int seen(int bar, int l, int w) {
        if (noBar(bar) || out(l, 0, 999) || out(w, 0, 50)) return err(1);
        int bits = 0;
        for (int i = 0; i < o.let.size(); i++) {
            int at = o.let.get(i) + o.clock[o.house.get(bar)];
            for (int r : counted(bar, l)) if (Math.abs(shown(r) - at) <= w) bits |= 1 << i;
        }
        return bits;
    }

    public int wrong(int bar, int l, int w) {
        if (noBar(bar) || out(l, 0, 999) || out(w, 0, 50)) return err(1);
        int no = 0;
        for (int r : counted(bar, l)) {
            boolean near = false;
            for (int t : o.let) near |= Math.abs(shown(r) - (t + o.clock[o.house.get(bar)])) <= w;
            if (!near) no++;
        }
        return no;
    }

    public int hours(int ab, int lw, int e, int what) {
        if (noPair(ab) || out(lw, 0, 50999) || out(e, 0, 400) || out(what, 0, 1)) return err(1);
        List<Integer> as = new ArrayList<>();
        List<Integer> bs = new ArrayList<>();
        for (int r : counted(ab / 10, lw % 1000)) as.add(shown(r));
        for (int r : counted(ab % 10, lw % 1000)) bs.add(shown(r));
        int best = 0;
        int most = -1;
        for (int d = -e; d <= e; d++) {
            int no = 0;
            for (int a : as) {
                boolean near = false;
                for (int b : bs) near |= Math.abs(b + d - a) <= lw / 1000;
                if (near) no++;
            }
            if (no > most || (no == most && Math.abs(d) < Math.abs(best))) {
                most = no;
                best = d;
            }
        }
        return what == 0 ? best : most;
    }

    private int spreadOf(int bar, int l, int period) {
        int[] parts = new int[12];
        for (int r : counted(bar, l)) parts[12 * (((shown(r) % period) + period) % period) / period]++;
        return Arrays.stream(parts).map(p -> p * p).sum();
    }

    public int spread(int bar, int l, int period) {
        if (noBar(bar) || out(l, 0, 999) || out(period, 12, 999)) return err(1);
        return spreadOf(bar, l, period);
    }

    private static boolean noPeriods(int from, int to) {
        return out(from, 12, 999) || out(to, 12, 999) || to < from || to - from + 1 > 40;
    }

    public int stars(int bar, int l, int from, int to) {
        if (noBar(bar) || out(l, 0, 999) || noPeriods(from, to)) return err(1);
        int best = from;
        for (int p = from; p <= to; p++) if (spreadOf(bar, l, p) > spreadOf(bar, l, best)) best = p;
        return best;
    }

    public int tried(int bar, int l, int from, int to, int period) {
        if (noBar(bar) || out(l, 0, 999) || noPeriods(from, to) || out(period, 12, 999)) return err(1);
        int no = 0;
        for (int p = from; p <= to; p++) if (spreadOf(bar, l, p) >= spreadOf(bar, l, period)) no++;
        return no;
    }

    public int weight(int law, int v) {
        if (out(law, 0, 5) || out(v, 0, 99)) return err(1);
        int was = o.weight[law];
        o.weight[law] = v;
        return was;
    }

    public int year(int year, int n) {
        if (out(year, 0, 7) || out(n, 0, 99)) return err(1);
        int was = o.year[year];
        o.year[year] = n;
        return was;
    }

    private BigInteger share(int law, int year) {
        BigInteger b = BigInteger.valueOf(o.weight[law]);
        for (int y = 0; y <= year; y++) b = b.multiply(BigInteger.valueOf(lawOf(law, o.year[y], y)));
        return b;
    }

    private BigInteger[] odds(int law, int year) {
        BigInteger sum = BigInteger.ZERO;
        for (int i = 0; i < 6; i++) sum = sum.add(share(i, year));
        return lowest(share(law, year), sum);
    }

    public long all(int law, int year, int part) {
        if (out(law, 0, 5) || out(year, 0, 7) || out(part, 0, 1)) return err(1);
        return odds(law, year)[part].longValueExact();
    }

    public int say(int year) {
        if (out(year, 0, 7)) return err(1);
        int said = 0;
        for (int law = 0; law < 6; law++) {
            BigInteger[] f = odds(law, year);
            if (f[0].multiply(BigInteger.TEN).compareTo(f[1].multiply(BigInteger.valueOf(9))) >= 0) said = 2;
            if (f[0].multiply(BigInteger.TWO).compareTo(f[1]) >= 0) said = Math.max(said, 1);
        }
        return said;
    }

    public int find(int one, int other) {
        if (out(one, 0, 5) || out(other, 0, 5)) return err(1);
        for (int n = 0; n < 100; n++) for (int y = 0; y < 8; y++) if (lawOf(one, n, y) != lawOf(other, n, y)) return 10 * n + y;
        return err(2);
    }

    public int quiet(int sense, int tenths) {
        if (out(sense, 1, 999) || out(tenths, 1, 9999)) return err(1);
        if (o.quiet.size() == 8) return err(4);
        o.quiet.add(new int[] {sense, tenths});
        return o.quiet.size();
    }

    public int bound(int height) {
        if (out(height, 1, 999)) return err(1);
        int least = Integer.MAX_VALUE;
        for (int[] q : o.quiet) if (q[0] <= height) least = Math.min(least, 30000 / q[1]);
        return least == Integer.MAX_VALUE ? err(2) : least;
    }

    public int gone(int mass, int l, int n) {
        if (out(mass, 1, 99999) || out(l, 1, 999) || out(n, 1, 9)) return err(1);
        long left = mass;
        for (int y = 1; y <= 999; y++) {
            for (int i = 0; i < n; i++) {
                long loss = left * l / 1000;
                if (left * l % 1000 != 0) loss++;
                left -= loss;
            }
            if (left * 2 < mass) return y;
        }
        return err(2);
    }

    public int seed(int v) {
        int was = o.z;
        o.z = v;
        return was;
    }

    private int draw() {
        o.z = (int) ((long) o.z * 1103515245L + 12345L);
        return (int) ((o.z & 0xffffffffL) / 256);
    }

    public int made(int bar, int n) {
        if (noBar(bar) || out(n, 1, 20)) return err(1);
        if (o.ring.size() + n > 96) return err(4);
        for (int i = 0; i < n; i++) {
            int t = draw() % 2400;
            int h = draw() % 999 + 1;
            o.ring.add(new int[] {bar, t, h});
        }
        return o.ring.size();
    }

    public int both(int ab, int n) {
        if (noPair(ab) || out(n, 1, 10)) return err(1);
        if (o.ring.size() + 2 * n > 96) return err(4);
        for (int i = 0; i < n; i++) {
            int t = draw() % 2400;
            int h = draw() % 999 + 1;
            o.ring.add(new int[] {ab / 10, t, h});
            o.ring.add(new int[] {ab % 10, t, h});
        }
        return o.ring.size();
    }

    // ---- voices, by Java's own way with classes

    private class Counting {
        int n;
        int l;

        void begins(int body) {
            if (trace.size() < 40) trace.add(body);
        }

        int rings(int x) {
            begins(10);
            return x + n;
        }

        int meets(int x) {
            begins(11);
            return rings(x) * 2;
        }

        int bounds(int x) {
            begins(12);
            return x - l;
        }

        int tells(int x) {
            begins(13);
            return meets(x) ^ bounds(x);
        }
    }

    private final class Warm extends Counting {
        int meets(int x) {
            begins(20);
            return super.meets(x) - 1;
        }
    }

    private final class Pushed extends Counting {
        int rings(int x) {
            begins(30);
            return super.rings(x) + bounds(1);
        }
    }

    private final class Near extends Counting {
        int tells(int x) {
            begins(40);
            return meets(2) - super.tells(x);
        }
    }

    private final class Lined extends Counting {
        int bounds(int x) {
            begins(50);
            return super.bounds(x) * 3;
        }
    }

    private final class Twice extends Counting {
        int meets(int x) {
            begins(60);
            return super.meets(x) + rings(x);
        }
    }

    private class Slid extends Counting {
        int rings(int x) {
            begins(70);
            return -super.rings(x);
        }

        int tells(int x) {
            begins(71);
            return super.tells(x + 1);
        }
    }

    private final class Off extends Slid {
        int meets(int x) {
            begins(80);
            return super.meets(x) ^ n;
        }

        int tells(int x) {
            begins(81);
            return bounds(x) + super.tells(x);
        }
    }

    private Counting ofKind(int kind) {
        switch (kind) {
            case 1: return new Warm();
            case 2: return new Pushed();
            case 3: return new Near();
            case 4: return new Lined();
            case 5: return new Twice();
            case 6: return new Slid();
            case 7: return new Off();
            default: return new Counting();
        }
    }

    public int voice(int counting, int act, int x) {
        if (noCounting(counting) || out(act, 0, 3)) return err(1);
        trace.clear();
        Counting c = ofKind(o.counting.get(counting)[0]);
        c.n = counting;
        c.l = o.counting.get(counting)[2];
        return act == 0 ? c.rings(x) : act == 1 ? c.meets(x) : act == 2 ? c.bounds(x) : c.tells(x);
    }

    public int trace(int i) {
        return out(i, 0, trace.size() - 1) ? err(2) : trace.get(i);
    }

    // ---- sheets, by Java's own rows

    private int length(int s) {
        return java.lang.reflect.Array.getLength(sheet[s]);
    }

    private int get(int s, int i) {
        return java.lang.reflect.Array.getInt(sheet[s], i);
    }

    public int sheet(int s, int bits, int n) {
        if (out(s, 0, 3) || (bits != 0 && bits != 8 && bits != 16 && bits != 32)) return err(1);
        if (bits == 0) {
            sheet[s] = null;
            return 1;
        }
        if (n < 0) return err(3);
        if (n > 40) return err(1);
        sheet[s] = bits == 8 ? new byte[n] : bits == 16 ? new short[n] : (Object) new int[n];
        return 1;
    }

    public int put(int s, int i, int v) {
        if (out(s, 0, 3)) return err(1);
        if (sheet[s] == null) return err(2);
        if (out(i, 0, length(s) - 1)) return err(1);
        if (sheet[s] instanceof byte[]) ((byte[]) sheet[s])[i] = (byte) v;
        else if (sheet[s] instanceof short[]) ((short[]) sheet[s])[i] = (short) v;
        else ((int[]) sheet[s])[i] = v;
        return 1;
    }

    public int move(int s, int i, int other, int j, int n) {
        if (out(s, 0, 3) || out(other, 0, 3)) return err(1);
        try {
            System.arraycopy(sheet[s], i, sheet[other], j, n);
            return n;
        } catch (NullPointerException e) {
            return err(2);
        } catch (ArrayStoreException e) {
            return err(5);
        } catch (IndexOutOfBoundsException e) {
            return err(1);
        }
    }

    public int image() {
        img = o.copy();
        return ++images;
    }

    public int restore() {
        if (img == null) return err(2);
        o = img.copy();
        return o.ring.size();
    }

    public int tell(int v) {
        if (o.waits.size() == 20) return err(4);
        o.waits.add(v);
        return o.waits.size();
    }

    public int check(int counting) {
        List<Integer> w = o.waits;
        o.waits = new ArrayList<>();
        if (noCounting(counting)) return err(1);
        int[] c = o.counting.get(counting);
        List<Integer> due = meeting(c[1], c[2], c[3], 0);
        if (w.equals(due)) return 0;
        int p = 0;
        while (p < w.size() && p < due.size() && w.get(p).equals(due.get(p))) p++;
        return 1 + p;
    }

    public int count(int what) {
        if (out(what, 0, 9)) return err(1);
        int[] all = {o.house.size(), o.ring.size(), o.counting.size(), o.line.size(), o.let.size(), o.quiet.size(),
            o.strip.size(), o.waits.size(), trace.size(), o.z};
        return all[what];
    }

    public int told(int k) {
        return out(k, 1, 5) ? err(1) : told[k];
    }
}
