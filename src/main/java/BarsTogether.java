/**
 * Bars that ring together: rods that ring by their own warmth, each in a house with a clock of its
 * own, and what may be said of rings that meet. The document's promises stand at the methods by
 * their numbers; words in capitals are the document's terms.
 */
public final class BarsTogether {
    private static final int LOW = -1000000;
    private static final int BEYOND = 1;
    private static final int NONE = 2;
    private static final int STATE = 3;
    private static final int FULL = 4;
    private static final int KIND = 5;

    private static final int HOUSES = 3;
    private static final int MOST_CLOCK = 999;
    private static final int MOST_BARS = 6;
    private static final int MOST_RINGS = 96;
    private static final int MOST_TENTH = 9999;
    private static final int MOST_HEIGHT = 999;
    private static final int MOST_GAP = 999;
    private static final int MOST_LINE = 999;
    private static final int MOST_WINDOW = 50;
    private static final int MOST_SLIDE = 999;
    private static final int MOST_BYTES = 50;
    private static final int USES = 9;
    private static final int FIRST_LAW = 3;
    private static final int LAWS = 6;
    private static final int YEARS = 8;
    private static final int MOST_NUMBER = 99;
    private static final int MOST_COUNTINGS = 12;
    private static final int KINDS = 8;
    private static final int VOICES = 4;
    private static final int MOST_SLIDES = 40;
    private static final int MOST_LINES = 6;
    private static final int MOST_LETS = 10;
    private static final int MOST_HOURS = 400;
    private static final int PARTS = 12;
    private static final int MOST_PERIOD = 999;
    private static final int MOST_PERIODS = 40;
    private static final int MOST_QUIET = 8;
    private static final int MOST_YEARS_GONE = 999;
    private static final int MOST_TRACE = 40;
    private static final int SHEETS = 4;
    private static final int MOST_ON_SHEET = 40;
    private static final int MOST_WAITING = 20;

    private final State now;
    private final State kept;
    private int images;
    private final Row errors;
    private final Sheet[] sheets;
    private final Pair pair;
    private final Tape tape;
    private final Slides slides;
    private final Voices voices;
    private final Reader reader;

    /** Promise 1. */
    public BarsTogether() {
        now = new State();
        kept = new State();
        errors = new Row(KIND + 1);
        errors.fill(KIND + 1, 0);
        sheets = new Sheet[SHEETS];
        for (int i = 0; i < SHEETS; i++) {
            sheets[i] = new Sheet();
        }
        pair = new Pair();
        tape = new Tape();
        slides = new Slides();
        voices = new Voices();
        reader = new Reader();
    }

    // ---- bars, rings

    /** Promise 2. */
    public int clock(int house, int v) {
        if (!within(house, 0, HOUSES - 1) || !within(v, -MOST_CLOCK, MOST_CLOCK)) {
            return error(BEYOND);
        }
        return now.clocks.exchange(house, v);
    }

    /** Promise 3. */
    public int bar(int house) {
        if (!within(house, 0, HOUSES - 1)) {
            return error(BEYOND);
        }
        if (!now.bars.add(house)) {
            return error(FULL);
        }
        return now.bars.size() - 1;
    }

    /** Promise 4. */
    public int ring(int bar, int tenth, int height) {
        if (!isBar(bar) || !isTenth(tenth) || !isHeight(height)) {
            return error(BEYOND);
        }
        if (!now.addRing(bar, tenth, height)) {
            return error(FULL);
        }
        return now.rings() - 1;
    }

    /** Promise 5. */
    public int ringOf(int ring, int what) {
        if (!isRing(ring) || !within(what, 0, 4)) {
            return error(BEYOND);
        }
        switch (what) {
            case 0:
                return now.ringBars.at(ring);
            case 1:
                return now.ringTenths.at(ring);
            case 2:
                return now.ringHeights.at(ring);
            case 3:
                return now.shownAt(ring);
            default:
                tape.lay(now, now.ringBars.at(ring));
                return tape.gapAt(tape.placeOf(ring));
        }
    }

    /** Promise 6. */
    public int onTape(int bar, int i) {
        if (!isBar(bar) || i < 0) {
            return error(BEYOND);
        }
        tape.lay(now, bar);
        if (i >= tape.rings.size()) {
            return error(NONE);
        }
        return tape.rings.at(i);
    }

    /** Promise 7. */
    public int counts(int ring, int l) {
        if (!isRing(ring) || !isLine(l)) {
            return error(BEYOND);
        }
        tape.hear(now, now.ringBars.at(ring));
        return tape.isCounted(tape.placeOf(ring), l) ? 1 : 0;
    }

    /** Promise 8. */
    public int rows(int bar, int sheet) {
        Sheet from = sheetAt(sheet);
        if (!isBar(bar) || from == null) {
            return error(BEYOND);
        }
        if (from.isMissing()) {
            return error(NONE);
        }
        int came = 0;
        while (came < MOST_ON_SHEET && addPair(bar, from, 2 * came)) {
            came++;
        }
        return came;
    }

    private boolean addPair(int bar, Sheet from, int i) {
        if (!from.hasNumber(i) || !from.hasNumber(i + 1)) {
            return false;
        }
        int tenth = from.numberAt(i);
        int height = from.numberAt(i + 1);
        return isTenth(tenth) && isHeight(height) && now.addRing(bar, tenth, height);
    }

    // ---- texts

    /** Promise 9. */
    public int feed(long word, int n) {
        if (!within(n, 1, 8)) {
            return error(BEYOND);
        }
        if (now.strip.room() < n) {
            return error(FULL);
        }
        for (int i = 0; i < n; i++) {
            now.strip.add((int) ((word >>> (8 * i)) & 255L));
        }
        return now.strip.size();
    }

    /** Promise 10. */
    public int text(int use) {
        if (!within(use, 0, USES - 1)) {
            return error(BEYOND);
        }
        int fault = reader.read(now.strip, use < FIRST_LAW ? "hgtb" : "ny");
        now.strip.clear();
        if (fault != Reader.NO_FAULT) {
            return -10 - fault;
        }
        now.setText(use, new Text(reader.code));
        return 1;
    }

    /** Promise 11. */
    public int law(int law, int n, int y) {
        if (!isLaw(law)) {
            return error(BEYOND);
        }
        return now.lawGives(law, n, y);
    }

    // ---- countings

    /** Promise 12. */
    public int meets(int ab, int l, int w, int d) {
        if (!isPair(ab) || !isLine(l) || !isWindow(w) || !within(d, -MOST_TENTH, MOST_TENTH)) {
            return error(BEYOND);
        }
        pair.hear(now, ab);
        pair.drawLine(l);
        return pair.meeting(w, d);
    }

    /** Promise 13. */
    public int counting(int kind, int ab, int l, int w, int d) {
        if (!isKind(kind) || !isPair(ab) || !isLine(l) || !isWindow(w) || !within(d, 1, MOST_SLIDE)) {
            return error(BEYOND);
        }
        int number = now.countings();
        if (number >= MOST_COUNTINGS) {
            return error(FULL);
        }
        now.addCounting(new Counting(number, kind, ab, l, w, d));
        return number;
    }

    /** Promise 14. */
    public int as(int counting, int kind) {
        Counting asked = now.countingAt(counting);
        if (asked == null || !isKind(kind)) {
            return error(BEYOND);
        }
        if (!asked.isOf(kind)) {
            return error(KIND);
        }
        return asked.line;
    }

    /** Promise 15. */
    public int gives(int counting) {
        Counting asked = now.countingAt(counting);
        if (asked == null) {
            return error(BEYOND);
        }
        pair.hear(now, asked.ab);
        return pair.given(asked, now.clockOf(asked.ab / 10) - now.clockOf(asked.ab % 10));
    }

    /** Promise 16. */
    public int chance(int counting, int m, int part) {
        Counting asked = now.countingAt(counting);
        if (asked == null || !isSlides(m) || !isPart(part)) {
            return error(BEYOND);
        }
        pair.hear(now, asked.ab);
        slides.take(pair, asked, asked.line, m);
        return (int) inLowestTerms(slides.noFewer(), m, part);
    }

    /** Promise 17. */
    public int ahead(int counting, int m, int x) {
        Counting asked = now.countingAt(counting);
        if (asked == null || !isSlides(m) || !within(x, 0, 100)) {
            return error(BEYOND);
        }
        pair.hear(now, asked.ab);
        slides.take(pair, asked, asked.line, m);
        return slides.leastRare(x);
    }

    /** Promise 18. */
    public int line(int l) {
        if (!isLine(l)) {
            return error(BEYOND);
        }
        if (!now.lines.add(l)) {
            return error(FULL);
        }
        return now.lines.size() - 1;
    }

    /** Promise 19. */
    public int chosen(int counting, int m) {
        Counting asked = now.countingAt(counting);
        if (asked == null || !isSlides(m)) {
            return error(BEYOND);
        }
        if (now.lines.size() == 0) {
            return error(NONE);
        }
        pair.hear(now, asked.ab);
        return slides.takeLines(pair, asked, now.lines, m);
    }

    /** Promise 20. */
    public int paid(int counting, int m, int part) {
        Counting asked = now.countingAt(counting);
        if (asked == null || !isSlides(m) || !isPart(part)) {
            return error(BEYOND);
        }
        if (now.lines.size() == 0) {
            return error(NONE);
        }
        pair.hear(now, asked.ab);
        slides.takeLines(pair, asked, now.lines, m);
        return (int) inLowestTerms(slides.noLess(), m, part);
    }

    // ---- let in, clocks, days

    /** Promise 21. */
    public int let(int tenth) {
        if (!isTenth(tenth)) {
            return error(BEYOND);
        }
        if (!now.lets.add(tenth)) {
            return error(FULL);
        }
        return now.lets.size() - 1;
    }

    /** Promise 22. */
    public int seen(int bar, int l, int w) {
        if (!isBar(bar) || !isLine(l) || !isWindow(w)) {
            return error(BEYOND);
        }
        tape.hear(now, bar);
        tape.keepAbove(l);
        int clock = now.clockOf(bar);
        int bits = 0;
        for (int i = 0; i < now.lets.size(); i++) {
            if (tape.countedTimes.hasNear(now.lets.at(i) + clock, w)) {
                bits |= 1 << i;
            }
        }
        return bits;
    }

    /** Promise 23. */
    public int wrong(int bar, int l, int w) {
        if (!isBar(bar) || !isLine(l) || !isWindow(w)) {
            return error(BEYOND);
        }
        tape.hear(now, bar);
        tape.keepAbove(l);
        int clock = now.clockOf(bar);
        int without = 0;
        for (int i = 0; i < tape.countedTimes.size(); i++) {
            if (!now.lets.hasNear(tape.countedTimes.at(i) - clock, w)) {
                without++;
            }
        }
        return without;
    }

    /** Promise 24. */
    public int hours(int ab, int lw, int e, int what) {
        if (!isPair(ab) || !within(lw, 0, 1000 * MOST_WINDOW + MOST_LINE)
                || !within(e, 0, MOST_HOURS) || !within(what, 0, 1)) {
            return error(BEYOND);
        }
        pair.hear(now, ab);
        pair.drawLine(lw % 1000);
        pair.meetBySlides(lw / 1000, e);
        int best = 0;
        for (int away = 1; away <= e; away++) {
            best = pair.metBySlide(-away, e) > pair.metBySlide(best, e) ? -away : best;
            best = pair.metBySlide(away, e) > pair.metBySlide(best, e) ? away : best;
        }
        return what == 0 ? best : pair.metBySlide(best, e);
    }

    /** Promise 25. */
    public int spread(int bar, int l, int period) {
        if (!isBar(bar) || !isLine(l) || !isPeriod(period)) {
            return error(BEYOND);
        }
        tape.hear(now, bar);
        tape.keepAbove(l);
        return tape.spreadBy(period);
    }

    /** Promise 26. */
    public int stars(int bar, int l, int from, int to) {
        if (!isBar(bar) || !isLine(l) || !arePeriods(from, to)) {
            return error(BEYOND);
        }
        tape.hear(now, bar);
        tape.keepAbove(l);
        int best = from;
        int greatest = tape.spreadBy(from);
        for (int period = from + 1; period <= to; period++) {
            int spread = tape.spreadBy(period);
            if (spread > greatest) {
                best = period;
                greatest = spread;
            }
        }
        return best;
    }

    /** Promise 27. */
    public int tried(int bar, int l, int from, int to, int period) {
        if (!isBar(bar) || !isLine(l) || !arePeriods(from, to) || !isPeriod(period)) {
            return error(BEYOND);
        }
        tape.hear(now, bar);
        tape.keepAbove(l);
        int asked = tape.spreadBy(period);
        int noLess = 0;
        for (int one = from; one <= to; one++) {
            if (tape.spreadBy(one) >= asked) {
                noLess++;
            }
        }
        return noLess;
    }

    // ---- laws, years

    /** Promise 28. */
    public int weight(int law, int v) {
        if (!isLaw(law) || !within(v, 0, MOST_NUMBER)) {
            return error(BEYOND);
        }
        return now.weights.exchange(law, v);
    }

    /** Promise 29. */
    public int year(int year, int n) {
        if (!isYear(year) || !within(n, 0, MOST_NUMBER)) {
            return error(BEYOND);
        }
        return now.years.exchange(year, n);
    }

    /** Promise 30. */
    public long all(int law, int year, int part) {
        if (!isLaw(law) || !isYear(year) || !isPart(part)) {
            return error(BEYOND);
        }
        return inLowestTerms(now.shareOf(law, year), now.sharesTogether(year), part);
    }

    /** Promise 31. */
    public int say(int year) {
        if (!isYear(year)) {
            return error(BEYOND);
        }
        long together = now.sharesTogether(year);
        if (together == 0) {
            return 0;
        }
        long greatest = 0;
        for (int law = 0; law < LAWS; law++) {
            greatest = Math.max(greatest, now.shareOf(law, year));
        }
        if (10 * greatest >= 9 * together) {
            return 2;
        }
        return 2 * greatest >= together ? 1 : 0;
    }

    /** Promise 32. */
    public int find(int one, int other) {
        if (!isLaw(one) || !isLaw(other)) {
            return error(BEYOND);
        }
        for (int n = 0; n <= MOST_NUMBER; n++) {
            for (int y = 0; y < YEARS; y++) {
                if (now.lawGives(one, n, y) != now.lawGives(other, n, y)) {
                    return 10 * n + y;
                }
            }
        }
        return error(NONE);
    }

    /** Promise 33. */
    public int quiet(int sense, int tenths) {
        if (!isHeight(sense) || !within(tenths, 1, MOST_TENTH)) {
            return error(BEYOND);
        }
        if (now.senses.room() == 0) {
            return error(FULL);
        }
        now.senses.add(sense);
        now.spans.add(tenths);
        return now.senses.size();
    }

    /** Promise 34. */
    public int bound(int height) {
        if (!isHeight(height)) {
            return error(BEYOND);
        }
        // The least quotient is that of the longest span.
        int longest = 0;
        for (int i = 0; i < now.senses.size(); i++) {
            if (now.senses.at(i) <= height) {
                longest = Math.max(longest, now.spans.at(i));
            }
        }
        if (longest == 0) {
            return error(NONE);
        }
        return 30000 / longest;
    }

    /** Promise 35. */
    public int gone(int m, int l, int n) {
        if (!within(m, 1, 99999) || !within(l, 1, 999) || !within(n, 1, 9)) {
            return error(BEYOND);
        }
        int left = m;
        for (int years = 1; years <= MOST_YEARS_GONE; years++) {
            for (int i = 0; i < n; i++) {
                left -= (left * l + 999) / 1000;
            }
            if (2 * left < m) {
                return years;
            }
        }
        return error(NONE);
    }

    // ---- draws, voices, sheets, images

    /** Promise 36. */
    public int seed(int v) {
        int was = now.z;
        now.z = v;
        return was;
    }

    /** Promise 37. */
    public int made(int bar, int n) {
        if (!isBar(bar) || !within(n, 1, 20)) {
            return error(BEYOND);
        }
        if (now.ringBars.room() < n) {
            return error(FULL);
        }
        for (int i = 0; i < n; i++) {
            int tenth = now.drawTenth();
            now.addRing(bar, tenth, now.drawHeight());
        }
        return now.rings();
    }

    /** Promise 38. */
    public int both(int ab, int n) {
        if (!isPair(ab) || !within(n, 1, 10)) {
            return error(BEYOND);
        }
        if (now.ringBars.room() < 2 * n) {
            return error(FULL);
        }
        for (int i = 0; i < n; i++) {
            int tenth = now.drawTenth();
            int height = now.drawHeight();
            now.addRing(ab / 10, tenth, height);
            now.addRing(ab % 10, tenth, height);
        }
        return now.rings();
    }

    /** Promise 39. */
    public int voice(int counting, int act, int x) {
        Counting asked = now.countingAt(counting);
        if (asked == null || !within(act, 0, VOICES - 1)) {
            return error(BEYOND);
        }
        return voices.begin(asked, act, x);
    }

    /** Promise 40. */
    public int trace(int i) {
        if (!within(i, 0, voices.bodies.size() - 1)) {
            return error(NONE);
        }
        return voices.bodies.at(i);
    }

    /** Promise 41. */
    public int sheet(int sheet, int bits, int n) {
        Sheet asked = sheetAt(sheet);
        if (asked == null || (bits != 0 && bits != 8 && bits != 16 && bits != 32)) {
            return error(BEYOND);
        }
        if (bits != 0 && n < 0) {
            return error(STATE);
        }
        if (bits != 0 && n > MOST_ON_SHEET) {
            return error(BEYOND);
        }
        asked.become(bits, bits == 0 ? 0 : n);
        return 1;
    }

    /** Promise 42. */
    public int put(int sheet, int i, int v) {
        Sheet asked = sheetAt(sheet);
        if (asked == null) {
            return error(BEYOND);
        }
        if (asked.isMissing()) {
            return error(NONE);
        }
        if (!asked.hasNumber(i)) {
            return error(BEYOND);
        }
        asked.write(i, v);
        return 1;
    }

    /** Promise 43. */
    public int move(int sheet, int i, int other, int j, int n) {
        Sheet from = sheetAt(sheet);
        Sheet to = sheetAt(other);
        if (from == null || to == null) {
            return error(BEYOND);
        }
        if (from.isMissing() || to.isMissing()) {
            return error(NONE);
        }
        if (from.bits != to.bits) {
            return error(KIND);
        }
        if (!from.hasNumbers(i, n) || !to.hasNumbers(j, n)) {
            return error(BEYOND);
        }
        to.numbers.takeFrom(from.numbers, i, j, n);
        return n;
    }

    /** Promise 44. */
    public int image() {
        kept.become(now);
        images++;
        return images;
    }

    /** Promise 45. */
    public int restore() {
        if (images == 0) {
            return error(NONE);
        }
        now.become(kept);
        return now.rings();
    }

    /** Promise 46. */
    public int tell(int v) {
        if (!now.waiting.add(v)) {
            return error(FULL);
        }
        return now.waiting.size();
    }

    /** Promise 47. */
    public int check(int counting) {
        Counting asked = now.countingAt(counting);
        if (asked == null) {
            now.waiting.clear();
            return error(BEYOND);
        }
        pair.hear(now, asked.ab);
        pair.drawLine(asked.line);
        pair.meeting(asked.window, 0);
        int unlike = now.waiting.firstUnlike(pair.met);
        now.waiting.clear();
        return 1 + unlike;
    }

    /** Promise 48. */
    public int count(int what) {
        switch (what) {
            case 0:
                return now.bars.size();
            case 1:
                return now.rings();
            case 2:
                return now.countings();
            case 3:
                return now.lines.size();
            case 4:
                return now.lets.size();
            case 5:
                return now.senses.size();
            case 6:
                return now.strip.size();
            case 7:
                return now.waiting.size();
            case 8:
                return voices.bodies.size();
            case 9:
                return now.z;
            default:
                return error(BEYOND);
        }
    }

    /** Promise 49. */
    public int told(int k) {
        if (!within(k, BEYOND, KIND)) {
            return error(BEYOND);
        }
        return errors.at(k);
    }

    // ---- what the acts ask of their arguments

    private int error(int k) {
        errors.raise(k, 1);
        return LOW - k;
    }

    private static boolean within(int v, int least, int most) {
        return v >= least && v <= most;
    }

    private boolean isBar(int bar) {
        return within(bar, 0, now.bars.size() - 1);
    }

    private boolean isPair(int ab) {
        return ab >= 0 && isBar(ab / 10) && isBar(ab % 10) && ab / 10 != ab % 10;
    }

    private boolean isRing(int ring) {
        return within(ring, 0, now.rings() - 1);
    }

    private static boolean isTenth(int tenth) {
        return within(tenth, 0, MOST_TENTH);
    }

    private static boolean isHeight(int height) {
        return within(height, 1, MOST_HEIGHT);
    }

    private static boolean isLine(int l) {
        return within(l, 0, MOST_LINE);
    }

    private static boolean isWindow(int w) {
        return within(w, 0, MOST_WINDOW);
    }

    private static boolean isKind(int kind) {
        return within(kind, 0, KINDS - 1);
    }

    private static boolean isSlides(int m) {
        return within(m, 1, MOST_SLIDES);
    }

    private static boolean isPart(int part) {
        return within(part, 0, 1);
    }

    private static boolean isPeriod(int period) {
        return within(period, PARTS, MOST_PERIOD);
    }

    private static boolean arePeriods(int from, int to) {
        return isPeriod(from) && isPeriod(to) && within(to - from, 0, MOST_PERIODS - 1);
    }

    private static boolean isLaw(int law) {
        return within(law, 0, LAWS - 1);
    }

    private static boolean isYear(int year) {
        return within(year, 0, YEARS - 1);
    }

    private Sheet sheetAt(int sheet) {
        return within(sheet, 0, sheets.length - 1) ? sheets[sheet] : null;
    }

    /** One part of a fraction in lowest terms; 0 by 1, if there is nothing above the line. */
    private static long inLowestTerms(long above, long below, int part) {
        long shared = above == 0 ? 0 : greatestShared(above, below);
        if (shared == 0) {
            return part == 0 ? 0 : 1;
        }
        return (part == 0 ? above : below) / shared;
    }

    /** Euclid's way; the bound is far above the steps that any two longs need. */
    private static long greatestShared(long one, long other) {
        long greater = one;
        long rest = other;
        for (int i = 0; i < 200 && rest != 0; i++) {
            long next = greater % rest;
            greater = rest;
            rest = next;
        }
        return greater;
    }

    /** Ints in a row that is made once and never has more of them than told then. */
    private static final class Row {
        private final int[] cells;
        private int size;

        Row(int most) {
            cells = new int[Math.max(0, most)];
        }

        int size() {
            return size;
        }

        int room() {
            return cells.length - size;
        }

        void clear() {
            size = 0;
        }

        /** The row has n numbers (as many as there is room for), each of them v. */
        void fill(int n, int v) {
            clear();
            for (int i = 0; i < n; i++) {
                add(v);
            }
        }

        boolean has(int i) {
            return i >= 0 && i < size && i < cells.length;
        }

        /** The number at a place; 0 where there is none. */
        int at(int i) {
            return i >= 0 && i < size && i < cells.length ? cells[i] : 0;
        }

        int exchange(int i, int v) {
            if (!has(i)) {
                return 0;
            }
            int was = cells[i];
            cells[i] = v;
            return was;
        }

        void raise(int i, int by) {
            if (has(i)) {
                cells[i] += by;
            }
        }

        boolean add(int v) {
            if (size < 0 || size >= cells.length) {
                return false;
            }
            cells[size] = v;
            size++;
            return true;
        }

        /** The last number, which is gone then; 0, if there is none. */
        int takeLast() {
            if (size <= 0 || size > cells.length) {
                return 0;
            }
            size--;
            return cells[size];
        }

        void insert(int place, int v) {
            if (place < 0 || place > size || size >= cells.length) {
                return;
            }
            System.arraycopy(cells, place, cells, place + 1, size - place);
            cells[place] = v;
            size++;
        }

        void become(Row other) {
            size = Math.min(other.size, cells.length);
            System.arraycopy(other.cells, 0, cells, 0, size);
        }

        /** n numbers of another row (or of this one), from i on, come to place j and on. */
        void takeFrom(Row other, int i, int j, int n) {
            if (n >= 0 && i >= 0 && j >= 0 && i <= other.size - n && j <= size - n) {
                System.arraycopy(other.cells, i, cells, j, n);
            }
        }

        boolean hasNear(int v, int window) {
            for (int i = 0; i < size; i++) {
                if (Math.abs(at(i) - v) <= window) {
                    return true;
                }
            }
            return false;
        }

        /** The first place at which two rows differ, or only one of them has a number; else -1. */
        int firstUnlike(Row other) {
            int longer = Math.max(size, other.size);
            for (int i = 0; i < longer; i++) {
                if (!has(i) || !other.has(i) || at(i) != other.at(i)) {
                    return i;
                }
            }
            return -1;
        }
    }

    /** All that an IMAGE keeps. */
    private static final class State {
        private final Row clocks = new Row(HOUSES);
        private final Row bars = new Row(MOST_BARS);
        private final Row ringBars = new Row(MOST_RINGS);
        private final Row ringTenths = new Row(MOST_RINGS);
        private final Row ringHeights = new Row(MOST_RINGS);
        private final Row strip = new Row(MOST_BYTES);
        private final Text[] texts = new Text[USES];
        private final Counting[] countings = new Counting[MOST_COUNTINGS];
        private int countingsMade;
        private final Row lines = new Row(MOST_LINES);
        private final Row lets = new Row(MOST_LETS);
        private final Row weights = new Row(LAWS);
        private final Row years = new Row(YEARS);
        private final Row senses = new Row(MOST_QUIET);
        private final Row spans = new Row(MOST_QUIET);
        private final Row waiting = new Row(MOST_WAITING);
        private int z = 1;

        State() {
            clocks.fill(HOUSES, 0);
            weights.fill(LAWS, 1);
            years.fill(YEARS, 0);
        }

        void become(State other) {
            clocks.become(other.clocks);
            bars.become(other.bars);
            ringBars.become(other.ringBars);
            ringTenths.become(other.ringTenths);
            ringHeights.become(other.ringHeights);
            strip.become(other.strip);
            // TEXTS and COUNTINGS never change once they are made, so two States may share them.
            for (int i = 0; i < texts.length && i < other.texts.length; i++) {
                texts[i] = other.texts[i];
            }
            for (int i = 0; i < countings.length && i < other.countings.length; i++) {
                countings[i] = other.countings[i];
            }
            countingsMade = other.countingsMade;
            lines.become(other.lines);
            lets.become(other.lets);
            weights.become(other.weights);
            years.become(other.years);
            senses.become(other.senses);
            spans.become(other.spans);
            waiting.become(other.waiting);
            z = other.z;
        }

        int rings() {
            return ringBars.size();
        }

        boolean addRing(int bar, int tenth, int height) {
            return ringBars.add(bar) && ringTenths.add(tenth) && ringHeights.add(height);
        }

        int clockOf(int bar) {
            return clocks.at(bars.at(bar));
        }

        int shownAt(int ring) {
            return ringTenths.at(ring) + clockOf(ringBars.at(ring));
        }

        Text textOf(int use) {
            return use >= 0 && use < texts.length ? texts[use] : null;
        }

        void setText(int use, Text text) {
            if (use >= 0 && use < texts.length) {
                texts[use] = text;
            }
        }

        int countings() {
            return countingsMade;
        }

        void addCounting(Counting made) {
            if (countingsMade >= 0 && countingsMade < countings.length) {
                countings[countingsMade] = made;
                countingsMade++;
            }
        }

        Counting countingAt(int i) {
            return i >= 0 && i < countingsMade && i < countings.length ? countings[i] : null;
        }

        int lawGives(int law, int n, int y) {
            Text text = textOf(FIRST_LAW + law);
            if (text == null) {
                return 1;
            }
            return Math.max(0, Math.min(9, text.value(n, y, 0, 0)));
        }

        /** What stands above the line of a LAW's ODDS by YEARS 0 to the told one. */
        long shareOf(int law, int year) {
            long share = weights.at(law);
            for (int y = 0; y <= year && y < YEARS; y++) {
                share *= lawGives(law, years.at(y), y);
            }
            return share;
        }

        long sharesTogether(int year) {
            long together = 0;
            for (int law = 0; law < LAWS; law++) {
                together += shareOf(law, year);
            }
            return together;
        }

        private int draw() {
            z = z * 1103515245 + 12345;
            return z >>> 8;
        }

        int drawTenth() {
            return draw() % 2400;
        }

        int drawHeight() {
            return draw() % 999 + 1;
        }
    }

    /** A TEXT in the order in which it is worked out: what an operator takes stands ahead of it. */
    private static final class Text {
        private final Row code;
        private final Row open;

        Text(Row read) {
            code = new Row(read.size());
            code.become(read);
            open = new Row(read.size());
        }

        /** Steps of 0 and more are NUMBERS, -1 to -4 NAMES, those below are signs with a minus. */
        int value(int first, int second, int third, int fourth) {
            open.clear();
            for (int i = 0; i < code.size(); i++) {
                int step = code.at(i);
                switch (step) {
                    case -1:
                        open.add(first);
                        break;
                    case -2:
                        open.add(second);
                        break;
                    case -3:
                        open.add(third);
                        break;
                    case -4:
                        open.add(fourth);
                        break;
                    case -'!':
                        open.add(truth(open.takeLast() == 0));
                        break;
                    default:
                        open.add(step >= 0 ? step : workedOut(-step));
                        break;
                }
            }
            return open.takeLast();
        }

        private int workedOut(int sign) {
            int right = open.takeLast();
            int left = open.takeLast();
            switch (sign) {
                case '|':
                    return truth(left != 0 || right != 0);
                case '&':
                    return truth(left != 0 && right != 0);
                case '<':
                    return truth(left < right);
                case '=':
                    return truth(left == right);
                case '>':
                    return truth(left > right);
                case '+':
                    return left + right;
                case '-':
                    return left - right;
                case '*':
                    return left * right;
                case '/':
                    return right == 0 ? 0 : left / right;
                case '%':
                    return right == 0 ? 0 : left % right;
                default:
                    return 0;
            }
        }

        private static int truth(boolean holds) {
            return holds ? 1 : 0;
        }
    }

    /** Reads THE STRIP as a TEXT. */
    private static final class Reader {
        private static final int NO_FAULT = -1;
        private static final int MOST_OPEN = 5;
        private static final int MOST_DIGITS = 4;
        private static final int COMPARED = 2;
        private static final int OPERAND = 5;

        private final Row code = new Row(MOST_BYTES);
        private final Row strip = new Row(MOST_BYTES);
        private String names = "";
        private int place;

        /** NO_FAULT, and the TEXT is in code; or its FAULT: reading stops where nothing goes on. */
        int read(Row from, String known) {
            code.clear();
            strip.become(from);
            names = known;
            place = 0;
            boolean whole = readLevel(0, 0) && place == strip.size();
            return whole ? NO_FAULT : place;
        }

        /** Level 0 is T, 1 A, 2 B, 3 S, 4 P, 5 Q; open tells how many of ! and ( are. */
        private boolean readLevel(int level, int open) {
            if (level >= OPERAND) {
                return readOperand(open);
            }
            if (!readLevel(level + 1, open)) {
                return false;
            }
            for (int i = 0; i < MOST_BYTES && isNextOneOf(signsOf(level)); i++) {
                int sign = strip.at(place);
                place++;
                if (!readLevel(level + 1, open)) {
                    return false;
                }
                code.add(-sign);
                if (level == COMPARED) {
                    return true;
                }
            }
            return true;
        }

        private static String signsOf(int level) {
            switch (level) {
                case 0:
                    return "|";
                case 1:
                    return "&";
                case COMPARED:
                    return "<=>";
                case 3:
                    return "+-";
                default:
                    return "*/%";
            }
        }

        private boolean isNextOneOf(String signs) {
            return strip.has(place) && signs.indexOf((char) strip.at(place)) >= 0;
        }

        private boolean readOperand(int open) {
            if (isNextOneOf("!(")) {
                return open < MOST_OPEN && readOpened(open + 1);
            }
            if (isNextOneOf(names)) {
                code.add(-1 - names.indexOf((char) strip.at(place)));
                place++;
                return true;
            }
            return readNumber();
        }

        private boolean readOpened(int open) {
            int sign = strip.at(place);
            place++;
            if (sign == '!') {
                if (!readOperand(open)) {
                    return false;
                }
                code.add(-sign);
                return true;
            }
            if (!readLevel(0, open) || !isNextOneOf(")")) {
                return false;
            }
            place++;
            return true;
        }

        private boolean readNumber() {
            int number = 0;
            int digits = 0;
            while (digits < MOST_DIGITS && isNextOneOf("0123456789")) {
                number = 10 * number + strip.at(place) - '0';
                place++;
                digits++;
            }
            if (digits == 0) {
                return false;
            }
            code.add(number);
            return true;
        }
    }

    /** THE TAPE of one BAR, as it stood when it was laid. */
    private static final class Tape {
        private final Row rings = new Row(MOST_RINGS);
        private final Row times = new Row(MOST_RINGS);
        private final Row heights = new Row(MOST_RINGS);
        private final Row ways = new Row(MOST_RINGS);
        private final Row countedRings = new Row(MOST_RINGS);
        private final Row countedTimes = new Row(MOST_RINGS);
        private final Row parts = new Row(PARTS);

        void lay(State state, int bar) {
            rings.clear();
            times.clear();
            heights.clear();
            for (int ring = 0; ring < state.rings(); ring++) {
                if (state.ringBars.at(ring) == bar) {
                    layRing(ring, state.shownAt(ring), state.ringHeights.at(ring));
                }
            }
        }

        private void layRing(int ring, int time, int height) {
            int place = times.size();
            while (place > 0 && times.at(place - 1) > time) {
                place--;
            }
            rings.insert(place, ring);
            times.insert(place, time);
            heights.insert(place, height);
        }

        /** Lays THE TAPE and asks the WAY of its HOUSE once for each RING, whatever LINES come. */
        void hear(State state, int bar) {
            lay(state, bar);
            ways.clear();
            Text way = state.textOf(state.bars.at(bar));
            for (int i = 0; i < rings.size(); i++) {
                ways.add(way == null ? 1 : way.value(heights.at(i), gapAt(i), Math.floorMod(times.at(i), 240), bar));
            }
        }

        int placeOf(int ring) {
            int place = 0;
            while (place < rings.size() && rings.at(place) != ring) {
                place++;
            }
            return place;
        }

        int gapAt(int i) {
            return i <= 0 ? MOST_GAP : Math.min(MOST_GAP, times.at(i) - times.at(i - 1));
        }

        boolean isCounted(int i, int line) {
            return heights.at(i) > line && ways.at(i) != 0;
        }

        void keepAbove(int line) {
            countedRings.clear();
            countedTimes.clear();
            for (int i = 0; i < rings.size(); i++) {
                if (isCounted(i, line)) {
                    countedRings.add(rings.at(i));
                    countedTimes.add(times.at(i));
                }
            }
        }

        /** SPREAD of those that were kept. */
        int spreadBy(int period) {
            if (period <= 0) {
                return 0;
            }
            parts.fill(PARTS, 0);
            for (int i = 0; i < countedTimes.size(); i++) {
                parts.raise(PARTS * Math.floorMod(countedTimes.at(i), period) / period, 1);
            }
            int spread = 0;
            for (int i = 0; i < PARTS; i++) {
                spread += parts.at(i) * parts.at(i);
            }
            return spread;
        }
    }

    /** THE TAPES of two BARS, and how their RINGS that COUNT by a LINE meet. */
    private static final class Pair {
        private final Tape one = new Tape();
        private final Tape other = new Tape();
        private final Row met = new Row(MOST_RINGS);
        private final Row bySlides = new Row(2 * MOST_HOURS + 2);

        void hear(State state, int ab) {
            one.hear(state, ab / 10);
            other.hear(state, ab % 10);
        }

        void drawLine(int line) {
            one.keepAbove(line);
            other.keepAbove(line);
        }

        /** MEETS; which RINGS of the first BAR these are stands in met, as they are on THE TAPE. */
        int meeting(int window, int slide) {
            Row theirs = other.countedTimes;
            met.clear();
            int j = 0;
            for (int i = 0; i < one.countedTimes.size(); i++) {
                int time = one.countedTimes.at(i) - slide;
                while (j < theirs.size() && theirs.at(j) < time - window) {
                    j++;
                }
                if (j < theirs.size() && theirs.at(j) <= time + window) {
                    met.add(one.countedRings.at(i));
                }
            }
            return met.size();
        }

        /** How many RINGS of the other BAR are near two of the first one, or more. */
        private int nearTwo(int window) {
            Row ours = one.countedTimes;
            int near = 0;
            int i = 0;
            for (int j = 0; j < other.countedTimes.size(); j++) {
                int time = other.countedTimes.at(j);
                while (i < ours.size() && ours.at(i) < time - window) {
                    i++;
                }
                if (i + 1 < ours.size() && ours.at(i + 1) <= time + window) {
                    near++;
                }
            }
            return near;
        }

        /** What a COUNTING GIVES, the CLOCK of the first BAR's HOUSE being so much off. */
        int given(Counting asked, int off) {
            drawLine(asked.line);
            int window = asked.window;
            switch (asked.kind) {
                case Counting.WARM:
                    return warm(asked);
                case Counting.PUSHED:
                    return Math.max(0, meeting(window, 0) - warm(asked));
                case Counting.NEAR:
                    return one.countedRings.size() - meeting(window, 0);
                case Counting.LINED:
                    return lined(asked);
                case Counting.TWICE:
                    return meeting(window, 0) + nearTwo(window);
                case Counting.SLID:
                    return meeting(window, asked.slide);
                case Counting.OFF:
                    return meeting(window, off);
                default:
                    return meeting(window, 0);
            }
        }

        private int warm(Counting asked) {
            int together = 0;
            for (int i = 1; i <= 5; i++) {
                together += meeting(asked.window, i * asked.slide);
            }
            return together / 5;
        }

        private int lined(Counting asked) {
            int greatest = -MOST_RINGS;
            for (int line = asked.line; line <= MOST_LINE; line += 50) {
                drawLine(line);
                greatest = Math.max(greatest, meeting(asked.window, 0) - meeting(asked.window, asked.slide));
            }
            return greatest;
        }

        /**
         * MEETS by all slides from -most to most at once: each RING of the first BAR tells where its
         * slides begin and end, and these are added up. Asking for each slide alone would be dear.
         */
        void meetBySlides(int window, int most) {
            bySlides.fill(2 * most + 2, 0);
            for (int i = 0; i < one.countedTimes.size(); i++) {
                markSlides(one.countedTimes.at(i), window, most);
            }
            for (int i = 1; i < bySlides.size(); i++) {
                bySlides.raise(i, bySlides.at(i - 1));
            }
        }

        /** The other BAR's latest RING needs the least slide, so slides come in their order. */
        private void markSlides(int time, int window, int most) {
            int next = -most;
            for (int j = other.countedTimes.size() - 1; j >= 0; j--) {
                int apart = time - other.countedTimes.at(j);
                int from = Math.max(next, apart - window);
                int to = Math.min(most, apart + window);
                if (from <= to) {
                    bySlides.raise(from + most, 1);
                    bySlides.raise(to + 1 + most, -1);
                    next = to + 1;
                }
            }
        }

        int metBySlide(int slide, int most) {
            return bySlides.at(slide + most);
        }
    }

    /** MEETS by 0 to m SLIDES of a COUNTING, and what is said by them. */
    private static final class Slides {
        private final Row meetings = new Row(MOST_SLIDES + 1);
        private final Row greatest = new Row(MOST_SLIDES + 1);
        private int together;
        private int m;

        void take(Pair pair, Counting asked, int line, int slides) {
            pair.drawLine(line);
            m = slides;
            meetings.clear();
            meetings.add(pair.meeting(asked.window, 0));
            together = 0;
            for (int s = 1; s <= m; s++) {
                int meeting = pair.meeting(asked.window, s * asked.slide);
                meetings.add(meeting);
                together += meeting;
            }
        }

        int noFewer() {
            return slidWith(meetings.at(0));
        }

        /** By how many SLIDES there are so many MEETS, or more. */
        private int slidWith(int least) {
            int slid = 0;
            for (int s = 1; s <= m; s++) {
                if (meetings.at(s) >= least) {
                    slid++;
                }
            }
            return slid;
        }

        /** AHEAD: more MEETS than RINGS there never are, so it is found. */
        int leastRare(int x) {
            int k = 0;
            while (k <= MOST_RINGS && 100 * slidWith(k) > x * m) {
                k++;
            }
            return k;
        }

        private int scoreAt(int s) {
            return m * meetings.at(s) - together;
        }

        /** Takes all LINES TRIED, keeps the greatest SCORE at each s, and answers CHOSEN. */
        int takeLines(Pair pair, Counting asked, Row lines, int slides) {
            int best = 0;
            greatest.clear();
            for (int i = 0; i < lines.size(); i++) {
                take(pair, asked, lines.at(i), slides);
                if (i == 0) {
                    keepAll();
                } else if (keepGreater()) {
                    best = i;
                }
            }
            return best;
        }

        private void keepAll() {
            for (int s = 0; s <= m; s++) {
                greatest.add(scoreAt(s));
            }
        }

        /** Whether SCORE at 0 became greater. */
        private boolean keepGreater() {
            boolean grew = scoreAt(0) > greatest.at(0);
            for (int s = 0; s <= m; s++) {
                greatest.exchange(s, Math.max(greatest.at(s), scoreAt(s)));
            }
            return grew;
        }

        /** For how many s the greatest SCORE is no less than that at 0. */
        int noLess() {
            int slid = 0;
            for (int s = 1; s <= m; s++) {
                if (greatest.at(s) >= greatest.at(0)) {
                    slid++;
                }
            }
            return slid;
        }
    }

    /** A COUNTING as it was made; it never changes. */
    private static final class Counting {
        private static final int PLAIN = 0;
        private static final int WARM = 1;
        private static final int PUSHED = 2;
        private static final int NEAR = 3;
        private static final int LINED = 4;
        private static final int TWICE = 5;
        private static final int SLID = 6;
        private static final int OFF = 7;

        private final int number;
        private final int kind;
        private final int ab;
        private final int line;
        private final int window;
        private final int slide;

        Counting(int number, int kind, int ab, int line, int window, int slide) {
            this.number = number;
            this.kind = kind;
            this.ab = ab;
            this.line = line;
            this.window = window;
            this.slide = slide;
        }

        /** Above PLAIN there is none, which -1 stands for. */
        static int kindAbove(int kind) {
            switch (kind) {
                case PLAIN:
                    return -1;
                case OFF:
                    return SLID;
                default:
                    return PLAIN;
            }
        }

        boolean isOf(int asked) {
            int own = kind;
            for (int i = 0; i < KINDS && own >= 0; i++) {
                if (own == asked) {
                    return true;
                }
                own = kindAbove(own);
            }
            return false;
        }
    }

    /** VOICES of COUNTINGS, and THE TRACE of the latest one. */
    private static final class Voices {
        private static final int RINGS = 0;
        private static final int MEETS = 1;
        private static final int BOUNDS = 2;
        private static final int TELLS = 3;
        private static final int MOST_DEEP = 20;

        /** BODIES by KINDS, four VOICES each; 0 where a KIND has none of its own. */
        private static final int[] BODIES = {
            10, 11, 12, 13,
            0, 20, 0, 0,
            30, 0, 0, 0,
            0, 0, 0, 40,
            0, 0, 50, 0,
            0, 60, 0, 0,
            70, 0, 0, 71,
            0, 80, 0, 81};

        private final Row bodies = new Row(MOST_TRACE);

        int begin(Counting asked, int act, int x) {
            bodies.clear();
            return speak(asked, asked.kind, act, x, 0);
        }

        /** The VOICE act from a KIND on; no BODIES of the document go as deep as the bound. */
        private int speak(Counting asked, int kind, int act, int x, int deep) {
            int body = bodyFrom(kind, act);
            if (deep >= MOST_DEEP || body == 0) {
                return 0;
            }
            bodies.add(body);
            return body < 20 ? plainBody(asked, body, x, deep + 1) : ownBody(asked, body, x, deep + 1);
        }

        private static int bodyFrom(int kind, int act) {
            int from = kind;
            for (int i = 0; i < KINDS && from >= 0; i++) {
                int place = VOICES * from + act;
                if (place >= 0 && place < BODIES.length && BODIES[place] != 0) {
                    return BODIES[place];
                }
                from = Counting.kindAbove(from);
            }
            return 0;
        }

        private int plainBody(Counting asked, int body, int x, int deep) {
            switch (body) {
                case 10:
                    return x + asked.number;
                case 11:
                    return speak(asked, asked.kind, RINGS, x, deep) * 2;
                case 12:
                    return x - asked.line;
                default:
                    return speak(asked, asked.kind, MEETS, x, deep) ^ speak(asked, asked.kind, BOUNDS, x, deep);
            }
        }

        /** BODIES of KINDS under COUNTING: kind is for its own VOICES, above for those of super. */
        private int ownBody(Counting asked, int body, int x, int deep) {
            int kind = asked.kind;
            int above = Counting.kindAbove(body / 10 - 1);
            switch (body) {
                case 20:
                    return speak(asked, above, MEETS, x, deep) - 1;
                case 30:
                    return speak(asked, above, RINGS, x, deep) + speak(asked, kind, BOUNDS, 1, deep);
                case 40:
                    return speak(asked, kind, MEETS, 2, deep) - speak(asked, above, TELLS, x, deep);
                case 50:
                    return speak(asked, above, BOUNDS, x, deep) * 3;
                case 60:
                    return speak(asked, above, MEETS, x, deep) + speak(asked, kind, RINGS, x, deep);
                case 70:
                    return -speak(asked, above, RINGS, x, deep);
                case 71:
                    return speak(asked, above, TELLS, x + 1, deep);
                case 80:
                    return speak(asked, above, MEETS, x, deep) ^ asked.number;
                case 81:
                    return speak(asked, kind, BOUNDS, x, deep) + speak(asked, above, TELLS, x, deep);
                default:
                    return 0;
            }
        }
    }

    /** A SHEET; of 0 bits, if it is missing. */
    private static final class Sheet {
        private final Row numbers = new Row(MOST_ON_SHEET);
        private int bits;

        boolean isMissing() {
            return bits == 0;
        }

        void become(int width, int n) {
            bits = width;
            numbers.fill(n, 0);
        }

        boolean hasNumber(int i) {
            return numbers.has(i);
        }

        /** Whether n numbers stand from i on; none stand at the end, too, but not behind it. */
        boolean hasNumbers(int i, int n) {
            return n >= 0 && i >= 0 && n <= numbers.size() && i <= numbers.size() - n;
        }

        int numberAt(int i) {
            return numbers.at(i);
        }

        void write(int i, int v) {
            numbers.exchange(i, bits == 8 ? (byte) v : bits == 16 ? (short) v : v);
        }
    }
}
