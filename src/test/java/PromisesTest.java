/** For each promise of the document ordinary calls, its edges, and wrong ones, with answers worked out by hand. */
public final class PromisesTest {
    private static final int BEYOND = -1000001;
    private static final int NONE = -1000002;
    private static final int STATE = -1000003;
    private static final int FULL = -1000004;
    private static final int KIND = -1000005;

    private static int asked;
    private static int wrong;
    private static BarsTogether x;

    public static void main(String[] args) {
        newObject();
        clocksBarsRings();
        tapes();
        wayOfCounting();
        rowsFromSheets();
        strips();
        faults();
        sums();
        laws();
        meetings();
        countings();
        givings();
        slides();
        fortySlides();
        linesTried();
        letIn();
        hours();
        periods();
        weightsAndYears();
        says();
        finds();
        quietOnes();
        stars();
        draws();
        voices();
        sheets();
        moves();
        images();
        checks();
        tolds();
        System.out.println(wrong == 0 ? asked + " answers are as due" : wrong + " of " + asked + " are not as due");
        if (wrong != 0) {
            System.exit(1);
        }
    }

    private static void due(int promise, String what, long got, long want) {
        asked++;
        if (got != want) {
            wrong++;
            System.out.println("promise " + promise + ": " + what + " answered " + got + ", due is " + want);
        }
    }

    /** Bars 0 and 1 in HOUSES 0 and 1, bar 2 in HOUSE 0. */
    private static void fresh() {
        x = new BarsTogether();
        x.bar(0);
        x.bar(1);
        x.bar(0);
    }

    private static int feed(String text) {
        int there = x.count(6);
        for (int i = 0; i < text.length(); i++) {
            there = x.feed(text.charAt(i), 1);
        }
        return there;
    }

    private static int read(String text, int use) {
        feed(text);
        return x.text(use);
    }

    private static void newObject() {
        x = new BarsTogether();
        for (int what = 0; what < 9; what++) {
            due(1, "count(" + what + ") of a new one", x.count(what), 0);
        }
        due(1, "z of a new one", x.count(9), 1);
        for (int k = 1; k <= 5; k++) {
            due(1, "told(" + k + ") of a new one", x.told(k), 0);
        }
        due(1, "no BAR", x.ring(0, 0, 1), BEYOND);
        due(1, "no RING", x.ringOf(0, 0), BEYOND);
        due(1, "no COUNTING", x.gives(0), BEYOND);
        due(1, "no SHEET is there", x.put(0, 0, 0), NONE);
        due(1, "no IMAGE", x.restore(), NONE);
        due(1, "no TRACE", x.trace(0), NONE);
        due(1, "a LAW without TEXT", x.law(5, -7, 3), 1);
    }

    private static void clocksBarsRings() {
        x = new BarsTogether();
        due(2, "first clock", x.clock(2, -999), 0);
        due(2, "what it was", x.clock(2, 999), -999);
        due(2, "other HOUSE", x.clock(0, 5), 0);
        due(2, "house -1", x.clock(-1, 0), BEYOND);
        due(2, "house 3", x.clock(3, 0), BEYOND);
        due(2, "v 1000", x.clock(2, 1000), BEYOND);
        due(2, "v -1000", x.clock(2, -1000), BEYOND);
        due(2, "stays by an ERROR", x.clock(2, 0), 999);
        for (int i = 0; i < 6; i++) {
            due(3, "bar " + i, x.bar(i % 3), i);
        }
        due(3, "BEYOND ahead of FULL", x.bar(3), BEYOND);
        due(3, "house -1", x.bar(-1), BEYOND);
        due(3, "a seventh", x.bar(0), FULL);
        due(3, "six", x.count(0), 6);
        due(4, "least", x.ring(0, 0, 1), 0);
        due(4, "most", x.ring(5, 9999, 999), 1);
        due(4, "bar 6", x.ring(6, 0, 1), BEYOND);
        due(4, "tenth -1", x.ring(0, -1, 1), BEYOND);
        due(4, "tenth 10000", x.ring(0, 10000, 1), BEYOND);
        due(4, "height 0", x.ring(0, 0, 0), BEYOND);
        due(4, "height 1000", x.ring(0, 0, 1000), BEYOND);
        for (int i = 2; i < 96; i++) {
            due(4, "ring " + i, x.ring(1, i, i), i);
        }
        due(4, "BEYOND ahead of FULL", x.ring(0, 0, 0), BEYOND);
        due(4, "a 97th", x.ring(0, 0, 1), FULL);
        due(5, "BAR", x.ringOf(1, 0), 5);
        due(5, "TENTH", x.ringOf(1, 1), 9999);
        due(5, "height", x.ringOf(1, 2), 999);
        due(5, "SHOWN", x.ringOf(1, 3), 9999);
        x.clock(2, -3);
        due(5, "SHOWN as CLOCK is now", x.ringOf(1, 3), 9996);
        due(5, "TENTH stays", x.ringOf(1, 1), 9999);
        due(5, "ring 96", x.ringOf(96, 0), BEYOND);
        due(5, "ring -1", x.ringOf(-1, 0), BEYOND);
        due(5, "what 5", x.ringOf(0, 5), BEYOND);
        due(5, "what -1", x.ringOf(0, -1), BEYOND);
    }

    private static void tapes() {
        fresh();
        x.ring(0, 500, 10);
        x.ring(0, 100, 20);
        x.ring(1, 300, 30);
        x.ring(0, 500, 40);
        x.ring(0, 2000, 50);
        due(6, "earliest", x.onTape(0, 0), 1);
        due(6, "like ones by numbers", x.onTape(0, 1), 0);
        due(6, "like ones by numbers", x.onTape(0, 2), 3);
        due(6, "last", x.onTape(0, 3), 4);
        due(6, "behind the last", x.onTape(0, 4), NONE);
        due(6, "far behind", x.onTape(0, Integer.MAX_VALUE), NONE);
        due(6, "other BAR", x.onTape(1, 0), 2);
        due(6, "empty TAPE", x.onTape(2, 0), NONE);
        due(6, "i -1", x.onTape(0, -1), BEYOND);
        due(6, "bar 3", x.onTape(3, 0), BEYOND);
        due(5, "GAP of the first", x.ringOf(1, 4), 999);
        due(5, "GAP", x.ringOf(0, 4), 400);
        due(5, "GAP of a like one", x.ringOf(3, 4), 0);
        due(5, "GAP is 999 at most", x.ringOf(4, 4), 999);
        x.ring(0, 2998, 1);
        due(5, "GAP of 998", x.ringOf(5, 4), 998);
    }

    private static void wayOfCounting() {
        fresh();
        x.clock(0, -30);
        x.ring(0, 10, 100);
        x.ring(0, 40, 200);
        x.ring(1, 10, 100);
        due(7, "above the LINE", x.counts(0, 99), 1);
        due(7, "at the LINE", x.counts(0, 100), 0);
        due(7, "line 0", x.counts(0, 0), 1);
        due(7, "line 999", x.counts(0, 999), 0);
        due(7, "line -1", x.counts(0, -1), BEYOND);
        due(7, "line 1000", x.counts(0, 1000), BEYOND);
        due(7, "ring 3", x.counts(3, 0), BEYOND);
        due(10, "h", read("h=200", 0), 1);
        due(7, "WAY by h", x.counts(0, 0), 0);
        due(7, "WAY by h", x.counts(1, 0), 1);
        due(7, "WAY of another HOUSE", x.counts(2, 0), 1);
        due(7, "WAY and LINE", x.counts(1, 200), 0);
        due(10, "g", read("g=30", 0), 1);
        due(7, "WAY by GAP", x.counts(0, 0), 0);
        due(7, "WAY by GAP", x.counts(1, 0), 1);
        due(10, "t", read("t=220", 0), 1);
        due(7, "rest of -20 by 240", x.counts(0, 0), 1);
        due(7, "rest of 10 by 240", x.counts(1, 0), 0);
        due(10, "b", read("b", 1), 1);
        due(7, "BAR 1 is not 0", x.counts(2, 0), 1);
        due(10, "b-1", read("b-1", 1), 1);
        due(7, "0 counts not", x.counts(2, 0), 0);
        due(10, "below 0", read("0-5", 1), 1);
        due(7, "not 0 is true, below it too", x.counts(2, 0), 1);
    }

    private static void rowsFromSheets() {
        fresh();
        due(8, "bar 3", x.rows(3, 0), BEYOND);
        due(8, "sheet 4", x.rows(0, 4), BEYOND);
        due(8, "sheet -1", x.rows(0, -1), BEYOND);
        due(8, "missing", x.rows(0, 0), NONE);
        x.sheet(0, 16, 5);
        due(8, "height 0", x.rows(0, 0), 0);
        x.put(0, 0, 0);
        x.put(0, 1, 1);
        x.put(0, 2, 9999);
        x.put(0, 3, 999);
        x.put(0, 4, 7);
        due(8, "the third is not whole", x.rows(1, 0), 2);
        due(8, "two RINGS", x.count(1), 2);
        due(8, "BAR", x.ringOf(1, 0), 1);
        due(8, "TENTH", x.ringOf(1, 1), 9999);
        due(8, "height", x.ringOf(1, 2), 999);
        x.put(0, 2, -1);
        due(8, "TENTH -1", x.rows(0, 0), 1);
        x.put(0, 2, 10000);
        due(8, "TENTH 10000", x.rows(0, 0), 1);
        x.put(0, 2, 0);
        x.put(0, 3, 1000);
        due(8, "height 1000", x.rows(0, 0), 1);
        x.sheet(1, 32, 0);
        due(8, "empty SHEET", x.rows(0, 1), 0);
        x.sheet(1, 32, 40);
        for (int i = 0; i < 40; i++) {
            x.put(1, i, 1 + i);
        }
        for (int i = 0; i < 4; i++) {
            due(8, "twenty", x.rows(0, 1), 20);
        }
        due(8, "room for 11 more", x.rows(0, 1), 11);
        due(8, "no room", x.rows(0, 1), 0);
        due(8, "RINGS", x.count(1), 96);
        due(8, "no ERROR FULL", x.told(4), 0);
    }

    private static void strips() {
        fresh();
        due(9, "n 0", x.feed(1, 0), BEYOND);
        due(9, "n 9", x.feed(1, 9), BEYOND);
        due(9, "8 bytes", x.feed(0x2b2b2b2b2b2b2b31L, 8), 8);
        due(9, "1 byte", x.feed(0x7777777777777731L, 1), 9);
        due(10, "lowest first", x.text(0), -12);
        for (int i = 1; i <= 6; i++) {
            due(9, "so many", x.feed(0L, 8), 8 * i);
        }
        due(9, "no room for 3", x.feed(0L, 3), FULL);
        due(9, "stays", x.count(6), 48);
        due(9, "room for 2", x.feed(-1L, 2), 50);
        due(9, "BEYOND ahead of FULL", x.feed(0L, 9), BEYOND);
        due(9, "full", x.feed(0L, 1), FULL);
        due(10, "BEYOND", x.text(9), BEYOND);
        due(10, "BEYOND", x.text(-1), BEYOND);
        due(10, "THE STRIP stays by BEYOND", x.count(6), 50);
        due(10, "FAULT at once", x.text(8), -10);
        due(10, "empty by a FAULT, too", x.count(6), 0);
        due(10, "a TEXT", read("4", 3), 1);
        due(10, "empty then", x.count(6), 0);
        due(10, "FAULT", read("5+", 3), -12);
        due(10, "the one ahead stays", x.law(0, 0, 0), 4);
        due(10, "in place of one ahead", read("6", 3), 1);
        due(10, "in place of one ahead", x.law(0, 0, 0), 6);
        due(10, "a byte above 127", read("1" + (char) 233, 3), -11);
    }

    private static void fault(String text, int use, int place) {
        due(10, "text(" + use + ") of " + text, read(text, use), -10 - place);
    }

    private static void faults() {
        fresh();
        fault("", 0, 0);
        fault("(", 0, 1);
        fault("(1", 0, 2);
        fault("(1))", 0, 3);
        fault("()", 0, 1);
        fault("1 +2", 0, 1);
        fault("+1", 0, 0);
        fault("-1", 0, 0);
        fault("1+-1", 0, 2);
        fault("1--1", 0, 2);
        fault("12345", 0, 4);
        fault("(1234)5", 0, 6);
        fault("1h", 0, 1);
        fault("h1", 0, 1);
        fault("hh", 0, 1);
        fault("n", 0, 0);
        fault("h", 3, 0);
        fault("n+t", 8, 2);
        fault("x", 0, 0);
        fault("1<2<3", 0, 3);
        fault("1=2>3", 0, 3);
        fault("1<2+3=4", 0, 5);
        fault("1!", 0, 1);
        fault("1(", 0, 1);
        fault("!", 0, 1);
        fault("!!!!!!1", 0, 5);
        fault("((((((1))))))", 0, 5);
        fault("(!(!(!1)))", 0, 5);
        fault("!(!(!((1))))", 0, 5);
        fault("1||2", 0, 2);
        fault("1&&2", 0, 2);
        fault("1==2", 0, 2);
        fault("1|", 0, 2);
        fault("1111111111", 0, 4);
        fault("1+1+1+1+1+1+1+1+1+1+1+1+1+1+1+1+1+1+1+1+1+1+1+1+1+", 0, 50);
        fault("1*1*1*1*1*1*1*1*1*1*1*1*1*1*1*1*1*1*1*1*1*1*1*1*11", 0, -11);
        fault("!!!!!1", 0, -11);
        fault("(((((1)))))", 0, -11);
        fault("!1+!!1+!!!!!1", 0, -11);
        fault("(1<2)<3", 0, -11);
        fault("1<2&3<4|5>6", 0, -11);
        fault("!!(!(h))", 0, -11);
        fault("1<(2<3)", 0, -11);
        fault("0000", 0, -11);
    }

    private static void sum(String text, int n, int y, int want) {
        due(10, "text of " + text, read(text, 3), 1);
        due(11, text + " by " + n + ", " + y, x.law(0, n, y), want);
    }

    private static void sums() {
        fresh();
        sum("n", 7, 0, 7);
        sum("y", 7, 5, 5);
        sum("9-4-3", 0, 0, 2);
        sum("8/2/2", 0, 0, 2);
        sum("1+2*3", 0, 0, 7);
        sum("(1+2)*3", 0, 0, 9);
        sum("7%4*2", 0, 0, 6);
        sum("17/3", 0, 0, 5);
        sum("(0-17)/3+9", 0, 0, 4);
        sum("(0-17)%5+9", 0, 0, 7);
        sum("5/0+3", 0, 0, 3);
        sum("5%0+3", 0, 0, 3);
        sum("n/y", Integer.MIN_VALUE, -1, 0);
        sum("0-n/y-1", Integer.MIN_VALUE, -1, 9);
        sum("n%y+4", Integer.MIN_VALUE, -1, 4);
        sum("(n+1)<0", Integer.MAX_VALUE, 0, 1);
        sum("9999*9999*40<0", 0, 0, 1);
        sum("n*n", 65536, 0, 0);
        sum("3|0", 0, 0, 1);
        sum("0|0", 0, 0, 0);
        sum("0|0|5", 0, 0, 1);
        sum("3&2", 0, 0, 1);
        sum("3&0", 0, 0, 0);
        sum("1&1", 0, 0, 1);
        sum("0&1", 0, 0, 0);
        sum("1|0&0", 0, 0, 1);
        sum("(1|0)&0", 0, 0, 0);
        sum("2<3", 0, 0, 1);
        sum("3<3", 0, 0, 0);
        sum("3=3", 0, 0, 1);
        sum("3>3", 0, 0, 0);
        sum("4>3", 0, 0, 1);
        sum("1+1=2", 0, 0, 1);
        sum("!5", 0, 0, 0);
        sum("!0+3", 0, 0, 4);
        sum("!!7", 0, 0, 1);
        sum("!(n=3)", 3, 0, 0);
        sum("!n*5", 0, 0, 5);
        sum("0-1&1", 0, 0, 1);
        sum("0005", 0, 0, 5);
        sum("9999-9990", 0, 0, 9);
    }

    private static void laws() {
        fresh();
        due(11, "without a TEXT", x.law(0, 5, 5), 1);
        read("n", 8);
        due(11, "9 at most", x.law(5, 10, 0), 9);
        due(11, "0 at least", x.law(5, -1, 0), 0);
        due(11, "any n", x.law(5, Integer.MAX_VALUE, 0), 9);
        due(11, "any n", x.law(5, Integer.MIN_VALUE, 0), 0);
        due(11, "its own TEXT", x.law(4, 5, 5), 1);
        due(11, "law 6", x.law(6, 0, 0), BEYOND);
        due(11, "law -1", x.law(-1, 0, 0), BEYOND);
    }

    private static void meetings() {
        fresh();
        x.ring(0, 100, 500);
        x.ring(0, 110, 300);
        x.ring(0, 400, 100);
        x.ring(1, 105, 400);
        x.ring(1, 350, 400);
        x.ring(2, 100, 50);
        due(12, "two of BAR 0", x.meets(1, 0, 5, 0), 2);
        due(12, "one of BAR 1", x.meets(10, 0, 5, 0), 1);
        due(12, "window 4", x.meets(1, 0, 4, 0), 0);
        due(12, "window 50", x.meets(1, 0, 50, 0), 3);
        due(12, "line drops one", x.meets(1, 300, 5, 0), 1);
        due(12, "line drops b", x.meets(1, 400, 5, 0), 0);
        due(12, "slid by 50", x.meets(1, 0, 0, 50), 1);
        due(12, "slid by -5", x.meets(1, 0, 0, -5), 1);
        due(12, "slid by 9999", x.meets(1, 0, 50, 9999), 0);
        due(12, "slid by -9999", x.meets(1, 0, 50, -9999), 0);
        x.clock(1, 45);
        due(12, "by CLOCKS", x.meets(1, 0, 5, 0), 1);
        due(12, "of one HOUSE", x.meets(2, 0, 0, 0), 1);
        due(12, "BAR 2 first", x.meets(20, 0, 10, 0), 1);
        due(12, "like BARS", x.meets(11, 0, 0, 0), BEYOND);
        due(12, "no BAR 3", x.meets(3, 0, 0, 0), BEYOND);
        due(12, "no BAR 3", x.meets(30, 0, 0, 0), BEYOND);
        due(12, "ab -1", x.meets(-1, 0, 0, 0), BEYOND);
        due(12, "ab 101", x.meets(101, 0, 0, 0), BEYOND);
        due(12, "l -1", x.meets(1, -1, 0, 0), BEYOND);
        due(12, "l 1000", x.meets(1, 1000, 0, 0), BEYOND);
        due(12, "w -1", x.meets(1, 0, -1, 0), BEYOND);
        due(12, "w 51", x.meets(1, 0, 51, 0), BEYOND);
        due(12, "d 10000", x.meets(1, 0, 0, 10000), BEYOND);
        due(12, "d -10000", x.meets(1, 0, 0, -10000), BEYOND);
    }

    private static void countings() {
        fresh();
        due(13, "kind -1", x.counting(-1, 1, 0, 0, 1), BEYOND);
        due(13, "kind 8", x.counting(8, 1, 0, 0, 1), BEYOND);
        due(13, "ab 3", x.counting(0, 3, 0, 0, 1), BEYOND);
        due(13, "l 1000", x.counting(0, 1, 1000, 0, 1), BEYOND);
        due(13, "w 51", x.counting(0, 1, 0, 51, 1), BEYOND);
        due(13, "d 0", x.counting(0, 1, 0, 0, 0), BEYOND);
        due(13, "d 1000", x.counting(0, 1, 0, 0, 1000), BEYOND);
        for (int i = 0; i < 12; i++) {
            due(13, "counting " + i, x.counting(i % 8, 1, i, 50, 999), i);
        }
        due(13, "BEYOND ahead of FULL", x.counting(8, 1, 0, 0, 1), BEYOND);
        due(13, "a 13th", x.counting(0, 1, 0, 0, 1), FULL);
        due(13, "twelve", x.count(2), 12);
        for (int own = 0; own < 8; own++) {
            for (int kind = 0; kind < 8; kind++) {
                boolean is = own == kind || kind == 0 || own == 7 && kind == 6;
                due(14, "as(" + own + ", " + kind + ")", x.as(own, kind), is ? own : KIND);
            }
        }
        due(14, "its LINE", x.as(11, 0), 11);
        due(14, "counting 12", x.as(12, 0), BEYOND);
        due(14, "counting -1", x.as(-1, 0), BEYOND);
        due(14, "kind 8", x.as(0, 8), BEYOND);
        due(14, "kind -1", x.as(0, -1), BEYOND);
        due(15, "counting 12", x.gives(12), BEYOND);
        due(15, "counting -1", x.gives(-1), BEYOND);
    }

    private static void givings() {
        fresh();
        x.ring(0, 100, 500);
        x.ring(0, 110, 60);
        x.ring(0, 130, 500);
        x.ring(0, 900, 500);
        x.ring(1, 105, 500);
        x.ring(1, 120, 500);
        x.ring(1, 300, 40);
        for (int kind = 0; kind < 8; kind++) {
            x.counting(kind, 1, 0, 10, 20);
        }
        due(15, "COUNTING", x.gives(0), 3);
        // Slid by 20: 125, 140, 320: one; by 40: 145, 160: none; 60, 80, 100: none.
        due(15, "WARM is cut", x.gives(1), 0);
        due(15, "PUSHED", x.gives(2), 3);
        due(15, "NEAR", x.gives(3), 1);
        due(15, "LINED", x.gives(4), 2);
        due(15, "TWICE", x.gives(5), 5);
        due(15, "SLID", x.gives(6), 1);
        due(15, "OFF", x.gives(7), 3);
        x.clock(0, 15);
        // RINGS of a are SHOWN at 115, 125, 145, 915.
        due(15, "OFF slides by CLOCKS", x.gives(7), 3);
        due(15, "COUNTING by CLOCKS", x.gives(0), 2);
        x.clock(1, 20);
        // b: 125, 140, 320; slid by -5: 120, 135, 315.
        due(15, "OFF slides back", x.gives(7), 3);
        x.clock(0, 0);
        x.clock(1, 0);
        x.counting(1, 1, 0, 50, 10);
        // b 105, 120, 300. By 10: 3; by 20: 3; by 30: 3; by 40: 3; by 50: 155 and 170: 2.
        due(15, "WARM of 14 by 5", x.gives(8), 2);
        x.counting(2, 1, 0, 0, 10);
        x.ring(1, 80, 1);
        // Slid by 0: none meets; by 10: 130 does; by 20: 100; by 30: 110; by 40: none; by 50: 130.
        due(15, "PUSHED is 0 at least", x.gives(9), 0);
        x.counting(4, 1, 0, 0, 10);
        due(15, "LINED of many LINES", x.gives(10), 0);
        x.counting(4, 1, 450, 0, 10);
        due(15, "LINED is 0 behind the last height", x.gives(11), 0);
        lined();
        everyKind();
        offByClocks();
        twiceAtTheEnd();
    }

    /** WINDOW 0, so that a slide by 1 more or less is seen; SLIDE 10. */
    private static void everyKind() {
        fresh();
        int[] ofA = {100, 200, 300, 400, 500};
        for (int tenth : ofA) {
            x.ring(0, tenth, 500);
        }
        // By 0: 100, 200, 300, 400; by 10, 20, 30, 40 one each; by 50 four.
        int[] ofB = {100, 200, 300, 400, 490, 480, 470, 460, 450, 50, 150, 250};
        for (int tenth : ofB) {
            x.ring(1, tenth, 500);
        }
        for (int kind = 0; kind < 8; kind++) {
            x.counting(kind, 1, 0, 0, 10);
        }
        due(15, "COUNTING", x.gives(0), 4);
        due(15, "WARM of 8 by 5", x.gives(1), 1);
        due(15, "PUSHED", x.gives(2), 3);
        due(15, "NEAR", x.gives(3), 1);
        due(15, "LINED", x.gives(4), 3);
        due(15, "TWICE", x.gives(5), 4);
        due(15, "SLID", x.gives(6), 1);
        due(15, "OFF", x.gives(7), 4);
        x.ring(0, 465, 500);
        x.ring(1, 455, 500);
        x.ring(1, 445, 500);
        // By 10 and by 20 the new RING of a meets, too: 10 by 5.
        due(15, "WARM of 10 by 5", x.gives(1), 2);
        x.ring(0, 550, 1);
        x.ring(1, 540, 1);
        x.ring(1, 530, 1);
        x.ring(1, 520, 1);
        x.ring(1, 510, 1);
        due(15, "WARM of 14 by 5", x.gives(1), 2);
        x.ring(1, 500, 1);
        // Now by 50 as well, and 500 meets by 0.
        due(15, "WARM of 15 by 5", x.gives(1), 3);
        due(15, "PUSHED", x.gives(2), 2);
    }

    private static void offByClocks() {
        x = new BarsTogether();
        x.bar(1);
        x.bar(2);
        x.bar(0);
        x.clock(0, 70);
        x.clock(1, 5);
        x.clock(2, -20);
        x.ring(2, 100, 1);
        x.ring(1, 100, 1);
        x.counting(7, 21, 0, 0, 1);
        x.counting(7, 12, 0, 0, 1);
        // SHOWN at 170 and 80; slid by 90, and by -90, they meet.
        due(15, "OFF by CLOCKS of BARS 2 and 1", x.gives(0), 1);
        due(15, "OFF by CLOCKS of BARS 1 and 2", x.gives(1), 1);
        x.clock(1, -999);
        due(15, "another HOUSE", x.gives(0), 1);
        x.ring(0, 100, 1);
        x.counting(7, 20, 0, 0, 1);
        due(15, "OFF by 1069", x.gives(2), 1);
    }

    private static void twiceAtTheEnd() {
        fresh();
        x.ring(0, 100, 1);
        x.ring(0, 110, 1);
        x.ring(1, 105, 1);
        x.counting(5, 1, 0, 5, 1);
        x.counting(5, 1, 0, 4, 1);
        x.counting(5, 10, 0, 5, 1);
        due(15, "TWICE: both RINGS of a are the last", x.gives(0), 3);
        due(15, "TWICE: WINDOW 4", x.gives(1), 0);
        due(15, "TWICE: b's are not asked", x.gives(2), 1);
        x.ring(0, 105, 1);
        due(15, "TWICE: three count once", x.gives(0), 4);
        x.ring(1, 102, 1);
        due(15, "TWICE: each RING of b", x.gives(0), 5);
    }

    private static void lined() {
        fresh();
        x.ring(0, 100, 999);
        x.ring(1, 90, 999);
        x.counting(4, 1, 949, 0, 10);
        x.counting(4, 1, 950, 0, 10);
        x.counting(4, 1, 998, 0, 10);
        x.counting(4, 1, 999, 0, 10);
        due(15, "LINES 949 and 999", x.gives(0), 0);
        due(15, "LINE 950 alone may be below 0", x.gives(1), -1);
        due(15, "LINE 998 alone", x.gives(2), -1);
        due(15, "LINE 999 alone", x.gives(3), 0);
    }

    private static void slides() {
        fresh();
        x.ring(0, 100, 500);
        x.ring(0, 200, 500);
        x.ring(1, 90, 500);
        x.ring(1, 200, 500);
        x.ring(1, 180, 20);
        x.counting(0, 1, 0, 0, 10);
        // Slid by 0: 1 (200). 10: 100 (90), 1. 20: 200 (180), 1. 30 .. 100: none. 110: 200 (90), 1.
        due(16, "above", x.chance(0, 11, 0), 3);
        due(16, "below", x.chance(0, 11, 1), 11);
        due(16, "lowest terms", x.chance(0, 6, 0), 1);
        due(16, "lowest terms", x.chance(0, 6, 1), 3);
        due(16, "1 by 1", x.chance(0, 2, 1), 1);
        due(16, "40 SLIDES", x.chance(0, 40, 1), 40);
        x.counting(6, 1, 100, 0, 10);
        due(16, "by its LINE, whatever KIND", x.chance(1, 6, 1), 6);
        x.counting(0, 1, 0, 0, 30);
        due(16, "0 by 1", x.chance(2, 3, 0), 0);
        due(16, "0 by 1", x.chance(2, 3, 1), 1);
        due(16, "m 0", x.chance(0, 0, 0), BEYOND);
        due(16, "m 41", x.chance(0, 41, 0), BEYOND);
        due(16, "part 2", x.chance(0, 1, 2), BEYOND);
        due(16, "part -1", x.chance(0, 1, -1), BEYOND);
        due(16, "counting 3", x.chance(3, 1, 0), BEYOND);
        // Of 4 SLIDES two have 1, two have 0.
        due(17, "49 of 100", x.ahead(0, 4, 49), 2);
        due(17, "50 of 100", x.ahead(0, 4, 50), 1);
        due(17, "99 of 100", x.ahead(0, 4, 99), 1);
        due(17, "all", x.ahead(0, 4, 100), 0);
        due(17, "none", x.ahead(0, 4, 0), 2);
        due(17, "x 101", x.ahead(0, 4, 101), BEYOND);
        due(17, "x -1", x.ahead(0, 4, -1), BEYOND);
        due(17, "m 0", x.ahead(0, 0, 0), BEYOND);
        due(17, "m 41", x.ahead(0, 41, 0), BEYOND);
        due(17, "counting -1", x.ahead(-1, 4, 0), BEYOND);
    }

    /** MEETS by 0, 39 and 40 SLIDES only. */
    private static void fortySlides() {
        fresh();
        x.ring(0, 790, 500);
        x.ring(0, 800, 500);
        x.ring(1, 400, 500);
        x.ring(1, 800, 500);
        x.counting(0, 1, 0, 0, 10);
        x.line(0);
        x.line(700);
        int[] m = {38, 39, 40};
        int[] above = {0, 1, 1};
        int[] below = {1, 39, 20};
        for (int i = 0; i < 3; i++) {
            due(16, "above by " + m[i], x.chance(0, m[i], 0), above[i]);
            due(16, "below by " + m[i], x.chance(0, m[i], 1), below[i]);
            due(20, "above by " + m[i], x.paid(0, m[i], 0), above[i]);
            due(20, "below by " + m[i], x.paid(0, m[i], 1), below[i]);
            due(17, "AHEAD by " + m[i], x.ahead(0, m[i], 0), i == 0 ? 1 : 2);
        }
        due(17, "5 of 100", x.ahead(0, 40, 5), 1);
        due(17, "4 of 100", x.ahead(0, 40, 4), 2);
    }

    private static void linesTried() {
        fresh();
        x.ring(0, 100, 500);
        x.ring(0, 200, 500);
        x.ring(1, 90, 500);
        x.ring(1, 200, 500);
        x.ring(1, 180, 20);
        x.counting(0, 1, 0, 0, 10);
        due(19, "BEYOND ahead of NONE", x.chosen(1, 1), BEYOND);
        due(20, "BEYOND ahead of NONE", x.paid(0, 1, 2), BEYOND);
        due(19, "no LINE", x.chosen(0, 1), NONE);
        due(20, "no LINE", x.paid(0, 1, 0), NONE);
        due(18, "first", x.line(0), 0);
        due(18, "l -1", x.line(-1), BEYOND);
        due(18, "l 1000", x.line(1000), BEYOND);
        due(18, "l 999", x.line(999), 1);
        // m 4: LINE 0: 4 - 2 at 0; LINE 999: 0.
        due(19, "greatest SCORE", x.chosen(0, 4), 0);
        // At 1 and 2 it is 2 as well, at 3 and 4 LINE 999 has the greatest, 0.
        due(20, "above", x.paid(0, 4, 0), 1);
        due(20, "below", x.paid(0, 4, 1), 2);
        due(18, "third", x.line(100), 2);
        // LINE 100: 1 at 0, 1 at 1, 0 at 2, 3, 4: 4 - 1 is 3 at 0 and at 1.
        due(19, "a later one is greater", x.chosen(0, 4), 2);
        due(20, "1 by 4", x.paid(0, 4, 0), 1);
        due(20, "1 by 4", x.paid(0, 4, 1), 4);
        due(18, "fourth", x.line(50), 3);
        due(19, "of several the least number", x.chosen(0, 4), 2);
        due(18, "fifth", x.line(5), 4);
        due(18, "sixth", x.line(5), 5);
        due(18, "BEYOND ahead of FULL", x.line(1000), BEYOND);
        due(18, "a seventh", x.line(5), FULL);
        due(18, "six", x.count(3), 6);
        due(19, "m 0", x.chosen(0, 0), BEYOND);
        due(19, "m 41", x.chosen(0, 41), BEYOND);
        due(19, "m 40", x.chosen(0, 40), 2);
        due(20, "m 41", x.paid(0, 41, 0), BEYOND);
        due(20, "part -1", x.paid(0, 4, -1), BEYOND);
        due(20, "counting 1", x.paid(1, 4, 0), BEYOND);
        x.counting(0, 1, 0, 0, 30);
        due(20, "0 by 1", x.paid(1, 2, 0), 0);
        due(20, "0 by 1", x.paid(1, 2, 1), 1);
    }

    private static void letIn() {
        fresh();
        x.clock(0, 700);
        x.ring(0, 100, 500);
        x.ring(0, 200, 50);
        x.ring(0, 300, 500);
        due(22, "no LETS", x.seen(0, 0, 50), 0);
        due(23, "no LETS", x.wrong(0, 0, 50), 3);
        due(21, "first", x.let(105), 0);
        due(21, "tenth -1", x.let(-1), BEYOND);
        due(21, "tenth 10000", x.let(10000), BEYOND);
        due(21, "second", x.let(9999), 1);
        due(21, "third", x.let(195), 2);
        due(22, "bits", x.seen(0, 0, 5), 5);
        due(22, "window 4", x.seen(0, 0, 4), 0);
        due(22, "by a LINE", x.seen(0, 50, 5), 1);
        due(22, "no RINGS", x.seen(1, 0, 50), 0);
        due(23, "wrong", x.wrong(0, 0, 5), 1);
        due(23, "window 4", x.wrong(0, 0, 4), 3);
        due(23, "by a LINE", x.wrong(0, 50, 5), 1);
        due(23, "by a LINE", x.wrong(0, 500, 5), 0);
        for (int promise = 22; promise <= 23; promise++) {
            due(promise, "bar 3", promise == 22 ? x.seen(3, 0, 0) : x.wrong(3, 0, 0), BEYOND);
            due(promise, "l 1000", promise == 22 ? x.seen(0, 1000, 0) : x.wrong(0, 1000, 0), BEYOND);
            due(promise, "w 51", promise == 22 ? x.seen(0, 0, 51) : x.wrong(0, 0, 51), BEYOND);
            due(promise, "w -1", promise == 22 ? x.seen(0, 0, -1) : x.wrong(0, 0, -1), BEYOND);
        }
        for (int i = 3; i < 10; i++) {
            due(21, "let " + i, x.let(0), i);
        }
        due(21, "BEYOND ahead of FULL", x.let(-1), BEYOND);
        due(21, "an eleventh", x.let(0), FULL);
        due(21, "ten", x.count(4), 10);
        x.ring(1, 0, 1);
        due(22, "highest bits", x.seen(1, 0, 0), 1016);
    }

    private static void hours() {
        fresh();
        due(24, "no RINGS: slide", x.hours(1, 0, 400, 0), 0);
        due(24, "no RINGS: MEETS", x.hours(1, 0, 400, 1), 0);
        x.ring(0, 1000, 500);
        x.ring(0, 1100, 500);
        x.ring(1, 1030, 500);
        x.ring(1, 1130, 40);
        x.ring(1, 970, 500);
        due(24, "most MEETS", x.hours(1, 0, 400, 0), -30);
        due(24, "how many", x.hours(1, 0, 400, 1), 2);
        due(24, "the lesser of two as near", x.hours(1, 40, 400, 0), -30);
        due(24, "one by LINE 40", x.hours(1, 40, 400, 1), 1);
        due(24, "e too short", x.hours(1, 0, 29, 0), 0);
        due(24, "e just enough", x.hours(1, 0, 30, 0), -30);
        due(24, "e 0", x.hours(1, 0, 0, 1), 0);
        due(24, "window 10: nearest to 0", x.hours(1, 10000, 400, 0), -20);
        due(24, "the other way round", x.hours(10, 0, 400, 0), 30);
        due(24, "window 50, line 999", x.hours(1, 50999, 400, 1), 0);
        fresh();
        x.ring(0, 1000, 1);
        x.ring(1, 999, 1);
        due(24, "slide 1", x.hours(1, 0, 400, 0), 1);
        due(24, "slide -1", x.hours(10, 0, 1, 0), -1);
        fresh();
        x.ring(0, 1000, 1);
        x.ring(1, 600, 1);
        due(24, "slide 400", x.hours(1, 0, 400, 0), 400);
        due(24, "slide 400 meets", x.hours(1, 0, 400, 1), 1);
        due(24, "slide -400", x.hours(10, 0, 400, 0), -400);
        due(24, "e 399", x.hours(1, 0, 399, 1), 0);
        x.ring(1, 610, 1);
        x.ring(0, 1005, 1);
        due(24, "each RING of a once by a slide", x.hours(1, 50000, 400, 1), 2);
        due(24, "the first slide with both", x.hours(1, 50000, 400, 0), 345);
        due(24, "lw 51000", x.hours(1, 51000, 400, 0), BEYOND);
        due(24, "lw -1", x.hours(1, -1, 400, 0), BEYOND);
        due(24, "e 401", x.hours(1, 0, 401, 0), BEYOND);
        due(24, "e -1", x.hours(1, 0, -1, 0), BEYOND);
        due(24, "what 2", x.hours(1, 0, 400, 2), BEYOND);
        due(24, "what -1", x.hours(1, 0, 400, -1), BEYOND);
        due(24, "ab 0", x.hours(0, 0, 400, 0), BEYOND);
    }

    private static void periods() {
        fresh();
        x.ring(0, 0, 500);
        x.ring(0, 24, 500);
        x.ring(0, 50, 500);
        x.ring(0, 99, 10);
        // By 24: rests 0, 0, 2, 3: parts 0, 0, 1, 1.
        due(25, "by 24", x.spread(0, 0, 24), 8);
        due(25, "by a LINE", x.spread(0, 10, 24), 5);
        due(25, "by 12", x.spread(0, 0, 12), 6);
        due(25, "by 999", x.spread(0, 0, 999), 10);
        due(25, "no RINGS", x.spread(1, 0, 24), 0);
        due(25, "period 11", x.spread(0, 0, 11), BEYOND);
        due(25, "period 1000", x.spread(0, 0, 1000), BEYOND);
        due(25, "bar 3", x.spread(3, 0, 24), BEYOND);
        due(25, "l -1", x.spread(0, -1, 24), BEYOND);
        x.clock(0, -1);
        // SHOWN at -1, 23, 49, 98: rests by 24: 23, 23, 1, 2: parts 11, 11, 0, 1.
        due(25, "SHOWN below 0", x.spread(0, 0, 24), 6);
        x.clock(0, 0);
        due(26, "one PERIOD", x.stars(0, 0, 24, 24), 24);
        due(26, "of like ones the least", x.stars(1, 0, 24, 63), 24);
        due(26, "40 PERIODS", x.stars(0, 0, 960, 999), 960);
        due(26, "41 PERIODS", x.stars(0, 0, 24, 64), BEYOND);
        due(26, "to ahead of from", x.stars(0, 0, 24, 23), BEYOND);
        due(26, "from 11", x.stars(0, 0, 11, 20), BEYOND);
        due(26, "to 1000", x.stars(0, 0, 990, 1000), BEYOND);
        due(26, "far apart", x.stars(0, 0, Integer.MIN_VALUE, Integer.MAX_VALUE), BEYOND);
        due(26, "bar -1", x.stars(-1, 0, 24, 24), BEYOND);
        due(26, "l 1000", x.stars(0, 1000, 24, 24), BEYOND);
        // By 23: rests 0, 1, 4, 7: parts 0, 0, 2, 3. By 24: 8. By 25: 0, 24, 0, 24: parts 0, 11, 0, 11.
        due(26, "up to the last", x.stars(0, 0, 23, 24), 24);
        due(26, "from the first on", x.stars(0, 0, 25, 26), 25);
        due(26, "the greatest, of several the least", x.stars(0, 0, 23, 25), 24);
        due(27, "no less than by 25", x.tried(0, 0, 23, 25, 25), 2);
        due(27, "no less than by 23", x.tried(0, 0, 23, 25, 23), 3);
        due(27, "told one is not of them", x.tried(0, 0, 23, 25, 999), 0);
        due(27, "41 PERIODS", x.tried(0, 0, 24, 64, 24), BEYOND);
        due(27, "to ahead of from", x.tried(0, 0, 24, 23, 24), BEYOND);
        due(27, "told one 11", x.tried(0, 0, 24, 24, 11), BEYOND);
        due(27, "told one 1000", x.tried(0, 0, 24, 24, 1000), BEYOND);
        due(27, "bar 3", x.tried(3, 0, 24, 24, 24), BEYOND);
        due(27, "l 1000", x.tried(0, 1000, 24, 24, 24), BEYOND);
        due(27, "no RINGS", x.tried(1, 0, 12, 51, 99), 40);
    }

    private static void weightsAndYears() {
        fresh();
        due(28, "at first", x.weight(5, 99), 1);
        due(28, "what it was", x.weight(5, 1), 99);
        due(28, "v 100", x.weight(0, 100), BEYOND);
        due(28, "v -1", x.weight(0, -1), BEYOND);
        due(28, "law 6", x.weight(6, 0), BEYOND);
        due(28, "law -1", x.weight(-1, 0), BEYOND);
        due(29, "at first", x.year(7, 99), 0);
        due(29, "what it was", x.year(7, 0), 99);
        due(29, "n 100", x.year(0, 100), BEYOND);
        due(29, "n -1", x.year(0, -1), BEYOND);
        due(29, "year 8", x.year(8, 0), BEYOND);
        due(29, "year -1", x.year(-1, 0), BEYOND);
        due(30, "six like LAWS", x.all(3, 7, 0), 1);
        due(30, "six like LAWS", x.all(3, 7, 1), 6);
        read("9", 3);
        x.weight(0, 99);
        due(30, "great numbers", x.all(0, 7, 0), 99L * 43046721L);
        due(30, "great numbers", x.all(0, 7, 1), 99L * 43046721L + 5);
        due(30, "up to one YEAR", x.all(0, 0, 0), 891);
        due(30, "up to one YEAR", x.all(0, 0, 1), 896);
        read("n+y", 4);
        x.year(0, 2);
        x.year(1, 3);
        // LAW 1: 2 * (3 + 1) is 8; LAW 0: 99 * 81; four others 1.
        due(30, "n and y", x.all(1, 1, 1), 99 * 81 + 8 + 4);
        due(30, "n and y", x.all(1, 1, 0), 8);
        x.year(0, 0);
        due(30, "0 by 1", x.all(1, 1, 0), 0);
        due(30, "0 by 1", x.all(1, 1, 1), 1);
        for (int law = 0; law < 6; law++) {
            x.weight(law, 0);
        }
        due(30, "all together 0", x.all(0, 7, 0), 0);
        due(30, "all together 0", x.all(0, 7, 1), 1);
        due(30, "law 6", x.all(6, 0, 0), BEYOND);
        due(30, "year 8", x.all(0, 8, 0), BEYOND);
        due(30, "part 2", x.all(0, 0, 2), BEYOND);
        due(30, "part -1", x.all(0, 0, -1), BEYOND);
        due(30, "told", x.told(1), 12);
    }

    private static void says() {
        fresh();
        due(31, "1 by 6 each", x.say(0), 0);
        x.weight(0, 4);
        due(31, "4 by 9", x.say(7), 0);
        x.weight(0, 5);
        due(31, "5 by 10", x.say(7), 1);
        x.weight(0, 44);
        due(31, "44 by 49", x.say(7), 1);
        x.weight(0, 45);
        due(31, "45 by 50", x.say(7), 2);
        x.weight(0, 1);
        x.weight(5, 45);
        due(31, "of any LAW", x.say(0), 2);
        read("0", 8);
        due(31, "it gives 0", x.say(0), 0);
        for (int law = 0; law < 6; law++) {
            x.weight(law, 0);
        }
        due(31, "all 0", x.say(0), 0);
        due(31, "year 8", x.say(8), BEYOND);
        due(31, "year -1", x.say(-1), BEYOND);
    }

    private static void finds() {
        fresh();
        due(32, "none have a TEXT", x.find(0, 5), NONE);
        read("n/90", 3);
        due(32, "n 0 gives 0", x.find(0, 1), 0);
        read("n/98", 4);
        due(32, "n 90", x.find(0, 1), 900);
        read("(n=99)*(y=7)", 5);
        read("0", 6);
        due(32, "the last of all", x.find(2, 3), 997);
        due(32, "the other way", x.find(3, 2), 997);
        read("y>4", 7);
        due(32, "least n, then least y", x.find(3, 4), 5);
        due(32, "one LAW", x.find(2, 2), NONE);
        due(32, "law 6", x.find(0, 6), BEYOND);
        due(32, "law -1", x.find(-1, 0), BEYOND);
    }

    private static void quietOnes() {
        fresh();
        due(34, "none", x.bound(999), NONE);
        due(33, "sense 0", x.quiet(0, 1), BEYOND);
        due(33, "sense 1000", x.quiet(1000, 1), BEYOND);
        due(33, "tenths 0", x.quiet(1, 0), BEYOND);
        due(33, "tenths 10000", x.quiet(1, 10000), BEYOND);
        due(33, "one", x.quiet(100, 7), 1);
        due(34, "30000 by 7", x.bound(100), 4285);
        due(34, "its SENSE is above", x.bound(99), NONE);
        due(33, "two", x.quiet(200, 9999), 2);
        due(34, "30000 by 9999", x.bound(200), 3);
        due(34, "below the second", x.bound(199), 4285);
        due(33, "three", x.quiet(1, 1), 3);
        due(34, "30000 by 1", x.bound(1), 30000);
        due(34, "the least", x.bound(999), 3);
        due(34, "height 0", x.bound(0), BEYOND);
        due(34, "height 1000", x.bound(1000), BEYOND);
        for (int i = 4; i <= 8; i++) {
            due(33, "so many", x.quiet(999, 1), i);
        }
        due(33, "BEYOND ahead of FULL", x.quiet(0, 1), BEYOND);
        due(33, "a ninth", x.quiet(999, 1), FULL);
        due(33, "eight", x.count(5), 8);
    }

    private static void stars() {
        fresh();
        due(35, "one time is enough", x.gone(100, 999, 1), 1);
        // 100, 50: that is not less than half; 25 is.
        due(35, "just half is not less", x.gone(100, 500, 1), 2);
        due(35, "rounded up", x.gone(101, 500, 1), 1);
        due(35, "twice a YEAR", x.gone(100, 500, 2), 1);
        // 10: one at a time, 3 a YEAR: 7, 4.
        due(35, "thrice a YEAR", x.gone(10, 1, 3), 2);
        due(35, "m 1", x.gone(1, 1, 1), 1);
        due(35, "m 2", x.gone(2, 1, 1), 2);
        due(35, "nine times", x.gone(99999, 1, 9), 77);
        due(35, "m 0", x.gone(0, 1, 1), BEYOND);
        due(35, "m 100000", x.gone(100000, 1, 1), BEYOND);
        due(35, "l 0", x.gone(1, 0, 1), BEYOND);
        due(35, "l 1000", x.gone(1, 1000, 1), BEYOND);
        due(35, "n 0", x.gone(1, 1, 0), BEYOND);
        due(35, "n 10", x.gone(1, 1, 10), BEYOND);
    }

    private static void draws() {
        fresh();
        due(36, "z at first", x.seed(Integer.MIN_VALUE), 1);
        due(36, "what it was", x.seed(-1000001), Integer.MIN_VALUE);
        due(36, "looks like an ERROR, is none", x.seed(1), -1000001);
        due(36, "none is told", x.told(1), 0);
        int first = 1103515245 + 12345;
        int second = first * 1103515245 + 12345;
        due(37, "two RINGS", x.made(2, 2), 2);
        due(37, "BAR", x.ringOf(0, 0), 2);
        due(37, "TENTH", x.ringOf(0, 1), (first >>> 8) % 2400);
        due(37, "height", x.ringOf(0, 2), (second >>> 8) % 999 + 1);
        x.seed(1);
        due(38, "both", x.both(10, 1), 4);
        due(38, "a first", x.ringOf(2, 0), 1);
        due(38, "then b", x.ringOf(3, 0), 0);
        due(38, "the same TENTH", x.ringOf(2, 1), (first >>> 8) % 2400);
        due(38, "the same TENTH", x.ringOf(3, 1), (first >>> 8) % 2400);
        due(38, "the same height", x.ringOf(2, 2), (second >>> 8) % 999 + 1);
        due(38, "the same height", x.ringOf(3, 2), (second >>> 8) % 999 + 1);
        due(38, "two draws", x.count(9), second);
        due(37, "n 0", x.made(0, 0), BEYOND);
        due(37, "n 21", x.made(0, 21), BEYOND);
        due(37, "bar 3", x.made(3, 1), BEYOND);
        due(38, "n 0", x.both(1, 0), BEYOND);
        due(38, "n 11", x.both(1, 11), BEYOND);
        due(38, "like BARS", x.both(0, 1), BEYOND);
        for (int i = 1; i <= 4; i++) {
            due(37, "twenty more", x.made(0, 20), 4 + 20 * i);
        }
        int z = x.count(9);
        due(37, "no room for 13", x.made(0, 13), FULL);
        due(38, "no room for 14", x.both(1, 7), FULL);
        due(37, "BEYOND ahead of FULL", x.made(0, 21), BEYOND);
        due(38, "BEYOND ahead of FULL", x.both(1, 11), BEYOND);
        due(37, "none comes", x.count(1), 84);
        due(37, "z stays", x.count(9), z);
        x.image();
        due(38, "room for 12", x.both(1, 6), 96);
        x.restore();
        due(37, "room for 12", x.made(0, 12), 96);
        x.restore();
        due(37, "one RING", x.made(0, 1), 85);
    }

    private static void speak(int counting, int act, int number, int want, int... bodies) {
        String call = "voice(" + counting + ", " + act + ", " + number + ")";
        due(39, call, x.voice(counting, act, number), want);
        for (int i = 0; i < bodies.length; i++) {
            due(40, "trace " + i + " of " + call, x.trace(i), bodies[i]);
        }
        due(40, "end of trace of " + call, x.trace(bodies.length), NONE);
        due(48, "BODIES of " + call, x.count(8), bodies.length);
    }

    private static void voices() {
        fresh();
        for (int kind = 0; kind < 8; kind++) {
            x.counting(kind, 1, 100 + kind, 0, 1);
        }
        speak(0, 0, 5, 5, 10);
        speak(0, 1, 5, 10, 11, 10);
        speak(0, 2, 5, -95, 12);
        speak(0, 3, 5, 10 ^ -95, 13, 11, 10, 12);
        speak(1, 0, 5, 6, 10);
        speak(1, 1, 5, 11, 20, 11, 10);
        speak(1, 2, 5, -96, 12);
        speak(1, 3, 5, 11 ^ -96, 13, 20, 11, 10, 12);
        speak(2, 0, 5, 7 + 1 - 102, 30, 10, 12);
        speak(2, 1, 5, -188, 11, 30, 10, 12);
        speak(2, 2, 5, -97, 12);
        speak(2, 3, 5, -188 ^ -97, 13, 11, 30, 10, 12, 12);
        speak(3, 0, 5, 8, 10);
        speak(3, 1, 5, 16, 11, 10);
        speak(3, 2, 5, -98, 12);
        speak(3, 3, 5, 10 - (16 ^ -98), 40, 11, 10, 13, 11, 10, 12);
        speak(4, 0, 5, 9, 10);
        speak(4, 1, 5, 18, 11, 10);
        speak(4, 2, 5, -297, 50, 12);
        speak(4, 3, 5, 18 ^ -297, 13, 11, 10, 50, 12);
        speak(5, 0, 5, 10, 10);
        speak(5, 1, 5, 30, 60, 11, 10, 10);
        speak(5, 2, 5, -100, 12);
        speak(5, 3, 5, 30 ^ -100, 13, 60, 11, 10, 10, 12);
        speak(6, 0, 5, -11, 70, 10);
        speak(6, 1, 5, -22, 11, 70, 10);
        speak(6, 2, 5, -101, 12);
        speak(6, 3, 5, -24 ^ -100, 71, 13, 11, 70, 10, 12);
        speak(7, 0, 5, -12, 70, 10);
        speak(7, 1, 5, -24 ^ 7, 80, 11, 70, 10);
        speak(7, 2, 5, -102, 12);
        speak(7, 3, 5, -102 + (-26 ^ 7 ^ -101), 81, 12, 71, 13, 80, 11, 70, 10, 12);
        speak(0, 1, 0x60000000, 0xC0000000, 11, 10);
        due(39, "goes round", x.voice(1, 0, Integer.MAX_VALUE), Integer.MIN_VALUE);
        due(39, "act 4", x.voice(0, 4, 0), BEYOND);
        due(39, "act -1", x.voice(0, -1, 0), BEYOND);
        due(39, "counting 8", x.voice(8, 0, 0), BEYOND);
        due(40, "THE TRACE stays by an ERROR", x.trace(0), 10);
        due(40, "i -1", x.trace(-1), NONE);
    }

    private static void sheets() {
        fresh();
        due(41, "sheet 4", x.sheet(4, 8, 1), BEYOND);
        due(41, "sheet -1", x.sheet(-1, 8, 1), BEYOND);
        due(41, "bits 7", x.sheet(0, 7, 1), BEYOND);
        due(41, "bits 64", x.sheet(0, 64, -1), BEYOND);
        due(41, "n below 0", x.sheet(0, 8, -1), STATE);
        due(41, "n far below 0", x.sheet(0, 8, Integer.MIN_VALUE), STATE);
        due(41, "n 41", x.sheet(0, 8, 41), BEYOND);
        due(41, "missing, n does not matter", x.sheet(0, 0, -5), 1);
        due(42, "still missing", x.put(0, 0, 1), NONE);
        due(41, "n 40", x.sheet(0, 8, 40), 1);
        due(42, "first", x.put(0, 0, 1), 1);
        due(42, "last", x.put(0, 39, 1), 1);
        due(42, "behind", x.put(0, 40, 1), BEYOND);
        due(42, "i -1", x.put(0, -1, 1), BEYOND);
        due(42, "sheet 4", x.put(4, 0, 1), BEYOND);
        due(42, "sheet -1", x.put(-1, 0, 1), BEYOND);
        due(42, "NONE ahead of BEYOND of i", x.put(1, 99, 1), NONE);
        due(41, "sheet 3", x.sheet(3, 32, 1), 1);
        due(42, "sheet 3", x.put(3, 0, 1), 1);
        due(41, "missing again", x.sheet(0, 0, 0), 1);
        due(42, "missing again", x.put(0, 0, 1), NONE);
        due(41, "n 0", x.sheet(0, 32, 0), 1);
        due(42, "n 0 has none", x.put(0, 0, 1), BEYOND);
        lowestBits(8, 256 + 5, 5, 128, -128);
        lowestBits(16, 65536 + 5, 5, 32768, -32768);
        lowestBits(32, 5, 5, Integer.MIN_VALUE, Integer.MIN_VALUE);
        x.sheet(0, 8, 2);
        x.put(0, 0, 9);
        x.put(0, 1, 9);
        x.sheet(0, 8, 2);
        due(41, "all 0 again", x.rows(0, 0), 0);
    }

    /** A number that becomes 5 makes a RING at TENTH 5; one that becomes less than 0 makes none. */
    private static void lowestBits(int bits, int put, int becomes, int below, int isBelow) {
        x.sheet(0, bits, 2);
        x.put(0, 1, 100);
        x.put(0, 0, put);
        due(42, "lowest " + bits + " bits", x.rows(0, 0), 1);
        due(42, "lowest " + bits + " bits", x.ringOf(x.count(1) - 1, 1), becomes);
        x.put(0, 0, below);
        due(42, "with their sign: " + isBelow, x.rows(0, 0), 0);
    }

    private static void moves() {
        fresh();
        due(43, "sheet 4", x.move(4, 0, 0, 0, 0), BEYOND);
        due(43, "other -1", x.move(0, 0, -1, 0, 0), BEYOND);
        due(43, "missing", x.move(0, 0, 0, 0, 0), NONE);
        x.sheet(0, 16, 6);
        due(43, "one is missing", x.move(0, 0, 1, 0, -1), NONE);
        due(43, "the first is missing", x.move(1, 0, 0, 0, -1), NONE);
        x.sheet(1, 32, 6);
        due(43, "unlike bits", x.move(0, 0, 1, 0, -1), KIND);
        due(43, "unlike bits", x.move(1, 0, 0, 0, 0), KIND);
        x.sheet(1, 16, 4);
        due(43, "n -1", x.move(0, 0, 1, 0, -1), BEYOND);
        due(43, "i -1", x.move(0, -1, 1, 0, 1), BEYOND);
        due(43, "j -1", x.move(0, 0, 1, -1, 1), BEYOND);
        due(43, "all of them", x.move(0, 2, 1, 0, 4), 4);
        due(43, "i 3", x.move(0, 3, 1, 0, 4), BEYOND);
        due(43, "j 1", x.move(0, 2, 1, 1, 4), BEYOND);
        due(43, "n 0 at the end", x.move(0, 6, 1, 4, 0), 0);
        due(43, "n 0 behind the end", x.move(0, 7, 1, 0, 0), BEYOND);
        due(43, "n 0 behind the end", x.move(0, 0, 1, 5, 0), BEYOND);
        due(43, "great n", x.move(0, 1, 1, 1, Integer.MAX_VALUE), BEYOND);
        due(43, "great i", x.move(0, Integer.MAX_VALUE, 1, 0, 1), BEYOND);
        due(43, "great j", x.move(0, 0, 1, Integer.MAX_VALUE, 1), BEYOND);
        for (int i = 0; i < 6; i++) {
            x.put(0, i, 10 * (i + 1));
        }
        // 10 20 30 40 50 60 becomes 10 20 10 20 30 40.
        due(43, "within one SHEET, as they all were", x.move(0, 0, 0, 2, 4), 4);
        due(43, "within one SHEET", x.rows(0, 0), 3);
        due(43, "the second pair", x.ringOf(1, 1), 10);
        due(43, "the third pair", x.ringOf(2, 1), 30);
        due(43, "the third pair", x.ringOf(2, 2), 40);
        // And back: 10 20 30 40 30 40.
        due(43, "to the front", x.move(0, 2, 0, 0, 4), 4);
        due(43, "to the other", x.move(0, 2, 1, 1, 3), 3);
        x.put(1, 0, 77);
        due(43, "the other", x.rows(0, 1), 2);
        due(43, "the other's first", x.ringOf(3, 1), 77);
        due(43, "the other's second", x.ringOf(3, 2), 30);
        due(43, "the other's last", x.ringOf(4, 2), 30);
    }

    private static void images() {
        fresh();
        x.clock(0, 4);
        x.ring(0, 10, 20);
        x.ring(1, 10, 20);
        read("h", 0);
        read("7", 3);
        feed("12");
        x.counting(7, 1, 5, 5, 5);
        x.line(5);
        x.let(10);
        x.weight(0, 9);
        x.year(0, 8);
        x.quiet(5, 5);
        x.seed(55);
        x.tell(0);
        x.sheet(0, 16, 2);
        x.voice(0, 2, 0);
        due(44, "first", x.image(), 1);
        x.clock(0, 5);
        x.bar(2);
        x.ring(2, 11, 21);
        due(44, "THE STRIP stays", x.text(8), 1);
        read("0", 0);
        read("3", 3);
        read("5", 4);
        x.counting(0, 10, 6, 5, 5);
        x.line(6);
        x.let(11);
        x.weight(0, 10);
        x.year(0, 9);
        x.quiet(6, 6);
        x.seed(56);
        x.tell(1);
        x.put(0, 1, 30);
        x.voice(0, 3, 0);
        x.clock(7, 7);
        due(45, "how many RINGS", x.restore(), 2);
        int[] counts = {3, 2, 1, 1, 1, 1, 2, 1, x.count(8), 55};
        for (int what = 0; what < 10; what++) {
            due(45, "count(" + what + ")", x.count(what), counts[what]);
        }
        due(45, "THE TRACE stays", x.trace(0), 81);
        due(45, "what told() tells stays", x.told(1), 1);
        due(45, "CLOCK", x.clock(0, 4), 4);
        due(45, "WAY", x.counts(0, 0), 1);
        due(45, "LAW", x.law(0, 0, 0), 7);
        due(45, "LAW without TEXT again", x.law(1, 0, 0), 1);
        due(45, "LAW without TEXT again", x.law(5, 0, 0), 1);
        due(45, "WEIGHT", x.weight(0, 1), 9);
        due(45, "YEAR", x.year(0, 1), 8);
        due(45, "COUNTING", x.as(0, 7), 5);
        due(45, "no other COUNTING", x.as(1, 0), BEYOND);
        due(45, "THE STRIP", x.feed('+', 1), 3);
        due(45, "SHEETS stay", x.rows(0, 0), 1);
        due(45, "numbers that wait", x.check(0), 0);
        due(45, "the IMAGE stays", x.restore(), 2);
        due(45, "numbers wait again", x.count(7), 1);
        due(45, "WEIGHT again", x.weight(0, 1), 9);
        x.bar(1);
        x.ring(0, 1, 1);
        due(44, "how many there were", x.image(), 2);
        x.ring(0, 1, 1);
        due(45, "in place of the one ahead", x.restore(), 3);
        due(44, "counted on, though restored", x.image(), 3);
        x.quiet(1, 7);
        due(34, "QUIET ones", x.bound(4), 4285);
        x.restore();
        due(45, "QUIET ones", x.bound(4), NONE);
        due(45, "QUIET ones", x.bound(5), 6000);
    }

    private static int checkWith(int counting, int... numbers) {
        for (int number : numbers) {
            x.tell(number);
        }
        return x.check(counting);
    }

    private static void checks() {
        fresh();
        x.ring(0, 300, 500);
        x.ring(0, 100, 500);
        x.ring(0, 200, 50);
        x.ring(0, 900, 500);
        x.ring(1, 100, 500);
        x.ring(1, 200, 500);
        x.ring(1, 301, 500);
        x.counting(6, 1, 0, 1, 100);
        x.counting(0, 1, 50, 0, 1);
        due(46, "one", x.tell(Integer.MIN_VALUE), 1);
        due(46, "two", x.tell(0), 2);
        due(47, "the first is not", x.check(0), 1);
        due(47, "none wait then", x.count(7), 0);
        due(47, "as on THE TAPE, slid by 0", checkWith(0, 1, 2, 0), 0);
        due(47, "one is missing", checkWith(0, 1, 2), 3);
        due(47, "all are missing", checkWith(0), 1);
        due(47, "one too many", checkWith(0, 1, 2, 0, 3), 4);
        due(47, "other order", checkWith(0, 1, 0, 2), 2);
        due(47, "by its LINE and WINDOW", checkWith(1, 1), 0);
        x.tell(1);
        due(47, "counting 2", x.check(2), BEYOND);
        due(47, "none wait by BEYOND, too", x.count(7), 0);
        x.counting(0, 2, 0, 0, 1);
        due(47, "none meet and none wait", checkWith(2), 0);
        due(47, "none meet, one waits", checkWith(2, 1), 1);
        for (int i = 1; i <= 20; i++) {
            due(46, "so many", x.tell(i), i);
        }
        due(46, "20 wait", x.tell(0), FULL);
        due(46, "20 wait", x.count(7), 20);
    }

    private static void tolds() {
        fresh();
        due(48, "what 10", x.count(10), BEYOND);
        due(48, "what -1", x.count(-1), BEYOND);
        due(49, "two", x.told(1), 2);
        due(49, "k 0", x.told(0), BEYOND);
        due(49, "k 6", x.told(6), BEYOND);
        due(49, "k -1", x.told(-1), BEYOND);
        due(49, "counted, too", x.told(1), 5);
        x.restore();
        x.trace(0);
        due(49, "NONE", x.told(2), 2);
        x.sheet(0, 8, -1);
        due(49, "STATE", x.told(3), 1);
        x.bar(0);
        x.bar(0);
        x.bar(0);
        x.bar(0);
        due(49, "FULL", x.told(4), 1);
        x.counting(0, 1, 0, 0, 1);
        x.as(0, 1);
        due(49, "KIND", x.told(5), 1);
        x.all(9, 9, 9);
        due(49, "longs, too", x.told(1), 6);
        x.text(0);
        due(49, "a FAULT is no ERROR", x.told(1), 6);
        due(48, "BARS", x.count(0), 6);
    }
}
