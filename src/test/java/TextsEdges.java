/** Promises 9 to 11, and the WAYS of 7: THE STRIP, TEXTS, FAULTS, what they give. */
final class TextsEdges extends Edge {
    private static final int GOOD = -11;

    static void all() {
        strip();
        feeds();
        uses();
        textsRefused();
        faults();
        grammar();
        operands();
        opened();
        wraps();
        quotients();
        truths();
        ways();
        rests();
        laws();
    }

    private static void strip() {
        edge(9, "THE STRIP (bytes, at most 50)");
        for (int i = 1; i <= 6; i++) {
            due("eights", x.feed(0L, 8), 8 * i);
        }
        refusedEach(FULL, "48 and", v -> x.feed(0L, v), 3, 4, 8);
        due("48 stay", x.count(6), 48);
        due("48 and 1", x.feed(0L, 1), 49);
        refusedEach(FULL, "49 and", v -> x.feed(0L, v), 2, 8);
        due("49 and 1", x.feed(0L, 1), 50);
        refusedEach(FULL, "50 and", v -> x.feed(0L, v), 1, 8);
        due("50 stay", x.count(6), 50);
        x.text(0);
        due("empty, there is room again", x.feed(0L, 8), 8);
        edge(9, "how many there are. BEYOND. FULL.");
        feed("1+".repeat(20) + "1");
        due("41", x.count(6), 41);
        x.image();
        due("41 and 8", x.feed(0L, 8), 49);
        x.restore();
        feed("+1");
        refused(FULL, "43 and 8: no part of it comes", () -> x.feed(packed("++++++++"), 8));
        due("43 stay", x.count(6), 43);
        due("what was there is a TEXT still", x.text(3), 1);
        due("22 by 9 at most", x.law(0, 0, 0), 9);
        feed("12345678".repeat(6) + "1x");
        refused(FULL, "full", () -> x.feed(0L, 1));
        beyond("BEYOND ahead of FULL, n", v -> x.feed(0L, v), -1, 0, 9, LEAST, MOST);
    }

    private static void feeds() {
        edge(9, "The n lowest bytes (1 .. 8) of a word, the lowest first, come to THE STRIP");
        beyond("n", v -> x.feed(0x3131313131313131L, v), 0, 9, -1, LEAST, MOST);
        due("none came", x.count(6), 0);
        due("n 1", x.feed(packed("7zzzzzzz"), 1), 1);
        due("the lowest alone", x.text(3), 1);
        due("7", x.law(0, 0, 0), 7);
        due("n 8", x.feed(packed("9-4-1-1-"), 8), 8);
        due("n 1 behind it", x.feed('1', 1), 9);
        due("the lowest first", x.text(3), 1);
        due("2", x.law(0, 0, 0), 2);
        x.feed(packed("1+1+1+1") | 0xffL << 56, 7);
        due("7 of 8", x.text(3), 1);
        x.feed(packed("1+1+1+1") | 0xffL << 56, 8);
        due("the highest byte is 255", x.text(3), -17);
        x.feed(-1L, 8);
        due("all of -1", x.text(3), -10);
        x.feed(0L, 1);
        due("a byte 0", x.text(3), -10);
        x.feed(0x80L | '1', 1);
        due("a byte above 127", x.text(3), -10);
        x.feed(0x131L, 2);
        due("a byte 1 behind the digit 1", x.text(3), -11);
    }

    private static void uses() {
        edge(10, "THE STRIP, which is empty then (by a FAULT, too), is the TEXT of a USE (0 to 8), in place of one ahead: 1.");
        for (int use = 0; use <= 8; use++) {
            due("USE " + use, read("0", use), 1);
            due("empty then", x.count(6), 0);
        }
        due("the last LAW", x.law(5, 0, 0), 0);
        due("in place of one ahead", read("8", 8), 1);
        due("the last LAW", x.law(5, 0, 0), 8);
        due("LAW 0 stays", x.law(0, 0, 0), 0);
        due("a FAULT", read("8+", 8), -12);
        due("empty by a FAULT, too", x.count(6), 0);
        due("an empty STRIP has FAULT 0", x.text(8), -10);
        edge(10, "in place of one ahead");
        bars(0, 1, 2);
        rings(0, 1, 0);
        rings(1, 1, 0);
        rings(2, 1, 0);
        for (int house = 0; house <= 2; house++) {
            read("0", house);
            for (int ring = 0; ring <= 2; ring++) {
                due("WAY of HOUSE " + house + ", RING " + ring, x.counts(ring, 0), ring == house ? 0 : 1);
            }
            due("in place of it", read("1", house), 1);
        }
        edge(10, "is the TEXT of a USE (0 to 8)");
        due("50 bytes", read("9-" + "1*".repeat(23) + "01", 3), 1);
        due("all of them are worked out", x.law(0, 0, 0), 8);
    }

    private static void textsRefused() {
        edge(10, "BEYOND (THE STRIP stays).");
        beyond("an empty STRIP, USE", v -> x.text(v), -1, 9);
        feed("6");
        beyond("USE", v -> x.text(v), -1, 9, LEAST, MOST);
        due("THE STRIP stays", x.count(6), 1);
        due("and is a TEXT", x.text(3), 1);
        due("6", x.law(0, 0, 0), 6);
        feed("6+");
        refused(BEYOND, "BEYOND, though there is a FAULT", () -> x.text(9));
        due("THE STRIP stays", x.count(6), 2);
        edge(10, "-10 less the FAULT (no ERROR; the one ahead stays).");
        bars(0);
        rings(0, 1, 0);
        read("0", 0);
        read("5", 3);
        due("FAULT of a WAY", read("1+", 0), -12);
        due("the WAY ahead stays", x.counts(0, 0), 0);
        due("FAULT of a LAW", read("1)", 3), -11);
        due("the LAW ahead stays", x.law(0, 0, 0), 5);
        due("FAULT without one ahead", read(")", 4), -10);
        due("there is none still", x.law(1, 0, 0), 1);
        due("no ERROR", x.told(1) + x.told(2) + x.told(3) + x.told(4) + x.told(5), 0);
    }

    private static void fault(String text, int place) {
        due("LAW " + text, read(text, 3), -10 - place);
    }

    private static void wayFault(String text, int place) {
        due("WAY " + text, read(text, 0), -10 - place);
    }

    private static void faults() {
        edge(10, "FAULT: the place of the first byte with which no TEXT goes on; how many there are, if it ends too early.");
        fault("", 0);
        fault("x", 0);
        fault("1x", 1);
        fault("1x+", 1);
        fault("1+x", 2);
        fault("(", 1);
        fault("(1", 2);
        fault("(1+", 3);
        fault("!", 1);
        fault("1+", 2);
        fault("(1))", 3);
        fault("((1)", 4);
        fault("(n<y", 4);
        fault("(n<y<", 4);
        fault("1".repeat(50), 4);
        fault("1+".repeat(25), 50);
        fault("1+".repeat(24) + "1x", 49);
        fault("1+".repeat(24) + "(1", 50);
        fault("1+".repeat(24) + "11", GOOD);
        edge(10, "USES: 0 to 2 WAY of HOUSE 0 to 2, NAMES h height, g GAP");
        wayFault("h+g+t+b", GOOD);
        wayFault("n", 0);
        wayFault("h+y", 2);
        wayFault("H", 0);
        fault("n+y", GOOD);
        fault("h", 0);
        fault("n+g", 2);
        fault("y+t", 2);
        fault("n+b", 2);
        fault("N", 0);
        due("the last WAY's NAMES", read("b", 2), 1);
        due("no WAY's NAME in the first LAW", read("b", 3), -10);
        due("no LAW's NAME in the last WAY", read("n", 2), -10);
        due("the last LAW's NAMES", read("n", 8), 1);
    }

    private static void grammar() {
        edge(10, "T: A { | A }.");
        fault("1|1", GOOD);
        fault("1|0|1|0", GOOD);
        fault("|1", 0);
        fault("1|", 2);
        fault("1||1", 2);
        fault("1|&1", 2);
        edge(10, "A: B { & B }.");
        fault("1&1", GOOD);
        fault("1&1&1", GOOD);
        fault("1|1&1|1", GOOD);
        fault("&1", 0);
        fault("1&", 2);
        fault("1&&1", 2);
        edge(10, "B: S, or S < S, S = S, S > S.");
        fault("1<1", GOOD);
        fault("1=1", GOOD);
        fault("1>1", GOOD);
        fault("1<1<1", 3);
        fault("1=1=1", 3);
        fault("1>1>1", 3);
        fault("1<1=1", 3);
        fault("1>1+1<1", 5);
        fault("1<=1", 2);
        fault("1==1", 2);
        fault("<1", 0);
        fault("1<", 2);
        fault("1<1&1<1|1<1", GOOD);
        fault("(1<1)<1", GOOD);
        fault("1<(1<1)", GOOD);
        fault("1<(1<1)<1", 7);
        fault("(1<1<1)", 4);
        edge(10, "S: P { + P, - P }.");
        fault("1+1-1+1", GOOD);
        fault("+1", 0);
        fault("-1", 0);
        fault("1-", 2);
        fault("1+-1", 2);
        fault("1--1", 2);
        fault("1<-1", 2);
        fault("(-1)", 1);
        edge(10, "P: Q { * Q, / Q, % Q }.");
        fault("1*1/1%1", GOOD);
        fault("*1", 0);
        fault("/1", 0);
        fault("%1", 0);
        fault("1*", 2);
        fault("1/", 2);
        fault("1%", 2);
        fault("1*/1", 2);
        fault("1*-1", 2);
    }

    private static void operands() {
        edge(10, "Q: a NUMBER of 1 to 4 digits, a NAME, ! Q, ( T ).");
        fault("0", GOOD);
        fault("9", GOOD);
        fault("9999", GOOD);
        fault("0000", GOOD);
        fault("00000", 4);
        fault("12345", 4);
        fault("1+12345", 6);
        fault("1234+1234", GOOD);
        fault("(1234)5", 6);
        fault("n5", 1);
        fault("5n", 1);
        fault("nn", 1);
        fault("n", GOOD);
        fault("!n", GOOD);
        fault("!!n", GOOD);
        fault("!+n", 1);
        fault("n!", 1);
        fault("1!1", 1);
        fault("(1|1)", GOOD);
        fault("()", 1);
        fault(")", 0);
        fault("1)", 1);
        fault("(1)1", 3);
        fault("(1)(1)", 3);
        fault("n(1)", 1);
        fault("1(1)", 1);
        fault("!(1)", GOOD);
        fault("(1)!", 3);
        fault("/", 0);
        fault(":", 0);
        edge(10, "No blanks.");
        fault(" ", 0);
        fault(" 1", 0);
        fault("1 ", 1);
        fault("1 +1", 1);
        fault("1+ 1", 2);
        fault("( 1)", 1);
        fault("! 1", 1);
        fault("1 1", 1);
        fault("1\t", 1);
        fault("1\n", 1);
    }

    private static void opened() {
        edge(10, "At most 5 of ! and ( are open at once.");
        fault("!!!!!1", GOOD);
        fault("!!!!!!1", 5);
        fault("!!!!!!", 5);
        fault("!!!!!", 5);
        fault("(((((1)))))", GOOD);
        fault("((((((1))))))", 5);
        fault("!(!(!1))", GOOD);
        fault("!(!(!(1)))", 5);
        fault("(!(!(1)))", GOOD);
        fault("(!(!(!1)))", 5);
        fault("(((((!1)))))", 5);
        fault("!!!!!(1)", 5);
        fault("!!!!(1)", GOOD);
        fault("!!!!(!1)", 5);
        fault("(1)+(1)+(1)+(1)+(1)+(1)", GOOD);
        fault("!1+!1+!1+!1+!1+!1", GOOD);
        fault("((((!1+!1+(1)+(!", 15);
        fault("((((!1+!1+(1)+!n))))", GOOD);
        fault("(((((1))+(1))))", GOOD);
        fault("!!!!!1+!!!!!1", GOOD);
        fault("!!!!!1+!!!!!!1", 12);
        fault("!(1)+!!!!!1", GOOD);
        fault("!!!!(1)*!!!!(1)", GOOD);
        fault("(((((1))))+(((((1", 15);
        fault("(((((1)))))+(((((1)))))", GOOD);
    }

    private static void gives(String text, int n, int y, int want) {
        due("text of " + text, read(text, 3), 1);
        due(text + " by " + n + " and " + y, x.law(0, n, y), want);
    }

    private static void wraps() {
        edge(11, "Ints that wrap");
        gives("n+1<0", MOST, 0, 1);
        gives("n+1=y", MOST, LEAST, 1);
        gives("n-1=y", LEAST, MOST, 1);
        gives("n*2+9", MOST, 0, 7);
        gives("n*2", LEAST, 0, 0);
        gives("n*n", 65536, 0, 0);
        gives("n*n=y", 46341, -2147479015, 1);
        gives("0-n=n", LEAST, 0, 1);
        gives("n*y=n", LEAST, -1, 1);
        gives("n/y=n", LEAST, -1, 1);
        gives("n%y", LEAST, -1, 0);
        gives("9999*9999*9999<0", 0, 0, 1);
        gives("9999*9999*40<0", 0, 0, 1);
    }

    private static void quotients() {
        edge(11, "Quotients are cut.");
        gives("n/y", 17, 2, 8);
        gives("n/y+9", -17, 2, 1);
        gives("n/y+9", 17, -2, 1);
        gives("n/y", -17, -2, 8);
        gives("n/y", 1, 2, 0);
        gives("n/y+1", -1, 2, 1);
        edge(11, "/ cut, % the rest that it leaves, both by 0 are 0");
        gives("n%y", 17, 5, 2);
        gives("n%y+5", -17, 5, 3);
        gives("n%y", 17, -5, 2);
        gives("n%y+5", -17, -5, 3);
        gives("n/y+4", 7, 0, 4);
        gives("n%y+4", 7, 0, 4);
        gives("n/y+4", LEAST, 0, 4);
        gives("n%y+4", LEAST, 0, 4);
        gives("0/0+0%0+2", 0, 0, 2);
        gives("8/2/2", 0, 0, 2);
        gives("8/2*2", 0, 0, 8);
        gives("9-3-2", 0, 0, 4);
        gives("2+2*3", 0, 0, 8);
        gives("7%4%2", 0, 0, 1);
    }

    private static void truths() {
        edge(11, "| & < = > ! are 1 or 0, what is not 0 being true; all is worked out.");
        gives("n|y", 0, 0, 0);
        gives("n|y", 5, 0, 1);
        gives("n|y", 0, -5, 1);
        gives("n|y", 2, 4, 1);
        gives("n&y", 2, 4, 1);
        gives("n&y", -1, LEAST, 1);
        gives("n&y", 0, 7, 0);
        gives("n&y", 7, 0, 0);
        gives("n&y", 0, 0, 0);
        gives("!n", 0, 0, 1);
        gives("!n", 1, 0, 0);
        gives("!n", -1, 0, 0);
        gives("!!n", 9, 0, 1);
        gives("n<y", 4, 5, 1);
        gives("n<y", 5, 5, 0);
        gives("n<y", 6, 5, 0);
        gives("n=y", 5, 5, 1);
        gives("n=y", 4, 5, 0);
        gives("n>y", 6, 5, 1);
        gives("n>y", 5, 5, 0);
        gives("n<y", LEAST, MOST, 1);
        gives("n>y", LEAST, MOST, 0);
        gives("1|n/y", 1, 0, 1);
        gives("0&n%y", 1, 0, 0);
        gives("1|1&0", 0, 0, 1);
        gives("2+3<6", 0, 0, 1);
        gives("!n+3", 5, 0, 3);
        gives("!(n+3)", -3, 0, 1);
    }

    /** Whether RING 0 COUNTS by this WAY of HOUSE 0. */
    private static void way(String text, int want) {
        due("text of " + text, read(text, 0), 1);
        due("WAY " + text, x.counts(0, 0), want);
    }

    private static void ways() {
        edge(7, "NAMES h height, g GAP, t the rest (0 to 239) of when it is SHOWN by 240, b BAR; without a TEXT 1.");
        bars(1, 0);
        x.ring(1, 300, 999);
        due("without a TEXT", x.counts(0, 0), 1);
        way("h=999", 1);
        way("g=999", 1);
        way("t=60", 1);
        way("b=1", 1);
        way("h-999", 0);
        way("g-999", 0);
        way("t-60", 0);
        way("b-1", 0);
        rings(1, 1, 300);
        way("g=999", 1);
        rings(1, 1, 299);
        way("g=1", 1);
        rings(0, 1, 300);
        way("g=1", 1);
    }

    private static void rests() {
        edge(7, "t the rest (0 to 239) of when it is SHOWN by 240");
        int[] tenths = {0, 0, 0, 0, 0, 239, 240, 9999, 1};
        int[] clocks = {0, -1, -239, -240, -241, 0, 0, 999, -999};
        int[] rests = {0, 239, 1, 0, 239, 239, 0, 198, 202};
        for (int i = 0; i < tenths.length; i++) {
            x = new BarsTogether();
            bars(0);
            rings(0, 1, tenths[i]);
            x.clock(0, clocks[i]);
            way("t=" + rests[i], 1);
        }
    }

    private static void laws() {
        edge(11, "3 to 8 LAW 0 to 5, NAMES n how many, y YEAR; held within 0 to 9; without 1.");
        for (int law = 0; law <= 5; law++) {
            due("without", x.law(law, 7, 7), 1);
            read("n", 3 + law);
            due("-1", x.law(law, -1, 0), 0);
            due("0", x.law(law, 0, 0), 0);
            due("9", x.law(law, 9, 0), 9);
            due("10", x.law(law, 10, 0), 9);
        }
        edge(11, "What a LAW gives for n (any) and y (any). BEYOND: LAW.");
        beyond("LAW", v -> x.law(v, 0, 0), -1, 6, LEAST, MOST);
        due("without a TEXT, any", x.law(5, LEAST, MOST), 1);
        read("n", 3);
        read("y", 8);
        due("the least n", x.law(0, LEAST, 0), 0);
        due("the most n", x.law(0, MOST, 0), 9);
        due("the least y", x.law(5, 0, LEAST), 0);
        due("the most y", x.law(5, 0, MOST), 9);
        due("n 100 and y 8 are no ERRORS", x.law(5, 100, 8), 8);
        beyond("LAW, though LAWS have TEXTS", v -> x.law(v, LEAST, MOST), -1, 6);
    }
}
