/** Promises 12 to 15: meets, countings, their KINDS and what they give. */
final class CountingsEdges extends Edge {
    static void all() {
        pairsOfSix();
        pairsOfFew();
        windows();
        slidFar();
        eachOnce();
        countings();
        countingsRefused();
        kinds();
        kindsRefused();
        givesPlain();
        givesWarm();
        givesNear();
        givesLined();
        givesTwice();
        givesSlid();
        givesOff();
    }

    private static void pairsOfSix() {
        edge(12, "MEETS of two BARS a and b (unlike ones, told as 10 * a + b)");
        bars(0, 0, 0, 0, 0, 0);
        rings(0, 1, 100, 100);
        rings(5, 1, 100);
        rings(4, 1, 100, 100, 100);
        due("0 and 5", x.meets(5, 0, 0, 0), 2);
        due("5 and 0", x.meets(50, 0, 0, 0), 1);
        due("5 and 4", x.meets(54, 0, 0, 0), 1);
        due("4 and 5", x.meets(45, 0, 0, 0), 3);
        due("0 and 1, which has no RINGS", x.meets(1, 0, 50, 0), 0);
        due("1 and 0", x.meets(10, 0, 50, 0), 0);
        beyond("like BARS", v -> x.meets(v, 0, 0, 0), 0, 11, 22, 33, 44, 55);
        beyond("no such BARS", v -> x.meets(v, 0, 0, 0), 6, 9, 60, 56, 65, 66, 90, 99, 100, 101, 105);
        beyond("ab", v -> x.meets(v, 0, 0, 0), -1, -10, -12, -45, LEAST, MOST);
    }

    private static void pairsOfFew() {
        edge(12, "unlike ones");
        beyond("no BARS", v -> x.meets(v, 0, 0, 0), 0, 1, 10);
        bars(0);
        beyond("one BAR", v -> x.meets(v, 0, 0, 0), 0, 1, 10, 11);
        bars(1);
        due("two BARS", x.meets(1, 0, 0, 0), 0);
        due("two BARS", x.meets(10, 0, 0, 0), 0);
        beyond("two BARS", v -> x.meets(v, 0, 0, 0), 0, 11, 2, 20, 12, 21);
    }

    private static void windows() {
        edge(12, "by a LINE, a WINDOW w (0 to 50), slid by d");
        bars(0, 0, 0);
        rings(0, 1, 1000);
        rings(1, 1, 1050);
        rings(2, 1, 950);
        due("b is 50 later, w 50", x.meets(1, 0, 50, 0), 1);
        due("b is 50 later, w 49", x.meets(1, 0, 49, 0), 0);
        due("b is 50 earlier, w 50", x.meets(2, 0, 50, 0), 1);
        due("b is 50 earlier, w 49", x.meets(2, 0, 49, 0), 0);
        due("51 later", x.meets(1, 0, 50, 1), 0);
        due("51 earlier", x.meets(2, 0, 50, -1), 0);
        due("w 0", x.meets(1, 0, 0, -50), 1);
        due("w 0, 1 off", x.meets(1, 0, 0, -51), 0);
        due("w 0, 1 off", x.meets(1, 0, 0, -49), 0);
        due("w 1, 1 off", x.meets(1, 0, 1, -51), 1);
        beyond("w", v -> x.meets(1, 0, v, 0), -1, 51, LEAST, MOST);
    }

    private static void slidFar() {
        edge(12, "MEETS. BEYOND: ab, l, w, d (-9999 to 9999).");
        bars(0, 1);
        rings(0, 999, 9999);
        rings(1, 999, 0);
        due("d 9999", x.meets(1, 0, 0, 9999), 1);
        due("d -9999", x.meets(10, 0, 0, -9999), 1);
        due("d 9998", x.meets(1, 0, 0, 9998), 0);
        due("d -9998", x.meets(10, 0, 0, -9998), 0);
        beyond("d", v -> x.meets(1, 0, 0, v), -10000, 10000, LEAST, MOST);
        due("l 998", x.meets(1, 998, 0, 9999), 1);
        due("l 999", x.meets(1, 999, 0, 9999), 0);
        beyond("l", v -> x.meets(1, v, 0, 0), -1, 1000, LEAST, MOST);
        refused(BEYOND, "all of them", () -> x.meets(2, 1000, 51, 10000));
        x.clock(0, 999);
        x.clock(1, -999);
        due("11997 apart", x.meets(1, 0, 50, 9999), 0);
    }

    private static void eachOnce() {
        edge(12, "how many RINGS of a COUNT for which some RING of b that COUNTS is SHOWN, with d added, w away at most.");
        bars(0, 1);
        due("no RINGS", x.meets(1, 0, 50, 0), 0);
        x.ring(0, 100, 500);
        due("b has none", x.meets(1, 0, 50, 0), 0);
        due("a has none", x.meets(10, 0, 50, 0), 0);
        x.ring(1, 90, 300);
        x.ring(1, 110, 300);
        due("two near one are one", x.meets(1, 0, 10, 0), 1);
        due("one near two are two", x.meets(10, 0, 10, 0), 2);
        due("b is above LINE 299", x.meets(1, 299, 10, 0), 1);
        due("b isn't above LINE 300", x.meets(1, 300, 10, 0), 0);
        due("a isn't above LINE 300", x.meets(10, 300, 10, 0), 0);
        read("0", 1);
        due("b counts not by its WAY", x.meets(1, 0, 10, 0), 0);
        due("a counts not by its WAY", x.meets(10, 0, 10, 0), 0);
    }

    private static void countings() {
        edge(13, "COUNTINGS 0, 1, .. (at most 12)");
        bars(0, 1);
        for (int i = 0; i <= 11; i++) {
            due("COUNTING " + i, x.counting(i % 8, 1, 0, 0, 1), i);
        }
        refusedEach(FULL, "a 13th of KIND", v -> x.counting(v, 1, 0, 0, 1), 0, 7);
        due("twelve", x.count(2), 12);
        beyond("KIND ahead of FULL", v -> x.counting(v, 1, 0, 0, 1), -1, 8);
        beyond("ab ahead of FULL", v -> x.counting(0, v, 0, 0, 1), 0, 2, -1);
        beyond("l ahead of FULL", v -> x.counting(0, 1, v, 0, 1), -1, 1000);
        beyond("w ahead of FULL", v -> x.counting(0, 1, 0, v, 1), -1, 51);
        beyond("d ahead of FULL", v -> x.counting(0, 1, 0, 0, v), 0, 1000);
    }

    private static void countingsRefused() {
        edge(13, "A COUNTING: its number. BEYOND: KIND, ab, l, w, d. FULL.");
        refused(BEYOND, "no BARS", () -> x.counting(0, 1, 0, 0, 1));
        bars(0, 1);
        beyond("KIND", v -> x.counting(v, 1, 0, 0, 1), -1, 8, LEAST, MOST);
        beyond("ab", v -> x.counting(0, v, 0, 0, 1), -1, 0, 2, 11, 20, LEAST, MOST);
        beyond("l", v -> x.counting(0, 1, v, 0, 1), -1, 1000, LEAST, MOST);
        beyond("w", v -> x.counting(0, 1, 0, v, 1), -1, 51, LEAST, MOST);
        beyond("d", v -> x.counting(0, 1, 0, 0, v), -1, 0, 1000, LEAST, MOST);
        due("none came", x.count(2), 0);
        edge(13, "each of two BARS, with a LINE l, a WINDOW w, a SLIDE d (1 to 999).");
        bars(0, 1);
        due("the least", x.counting(0, 1, 0, 0, 1), 0);
        due("the most", x.counting(7, 10, 999, 50, 999), 1);
        due("LINE 0", x.as(0, 0), 0);
        due("LINE 999", x.as(1, 7), 999);
    }

    private static void kinds() {
        edge(14, "of KINDS 0 COUNTING, 1 WARM under COUNTING, 2 PUSHED under COUNTING, 3 NEAR under COUNTING, "
                + "4 LINED under COUNTING, 5 TWICE under COUNTING, 6 SLID under COUNTING, 7 OFF under SLID");
        bars(0, 1);
        int[] above = {0, 0, 0, 0, 0, 0, 0, 6};
        for (int own = 0; own < 8; own++) {
            x.counting(own, 1, 10 + own, 0, 1);
            for (int kind = 0; kind < 8; kind++) {
                boolean is = kind == own || kind == above[own] || kind == 0;
                due("KIND " + own + " as " + kind, x.as(own, kind), is ? 10 + own : KIND);
            }
        }
    }

    private static void kindsRefused() {
        edge(14, "A COUNTING as one of a KIND: its LINE. BEYOND. KIND: it isn't of that KIND, nor of one under it.");
        refused(BEYOND, "no COUNTINGS", () -> x.as(0, 0));
        bars(0, 1);
        x.counting(0, 1, 0, 0, 1);
        x.counting(6, 1, 999, 0, 1);
        x.counting(7, 1, 5, 0, 1);
        due("LINE 0", x.as(0, 0), 0);
        due("LINE 999", x.as(1, 6), 999);
        refused(KIND, "SLID is above OFF, not under it", () -> x.as(1, 7));
        due("OFF is under SLID", x.as(2, 6), 5);
        refusedEach(KIND, "OFF as", v -> x.as(2, v), 1, 2, 3, 4, 5);
        beyond("COUNTING", v -> x.as(v, 0), -1, 3, LEAST, MOST);
        beyond("no such COUNTING ahead of KIND", v -> x.as(v, 1), -1, 3);
        beyond("KIND", v -> x.as(0, v), -1, 8, LEAST, MOST);
        edge(14, "BEYOND. KIND: it isn't of that KIND");
        bars(0, 1);
        for (int i = 0; i < 12; i++) {
            x.counting(1, 1, i, 0, 1);
        }
        due("the last of twelve", x.as(11, 1), 11);
        beyond("behind twelve", v -> x.as(v, 1), 12, 13);
    }

    private static void givesPlain() {
        edge(15, "What a COUNTING GIVES. BEYOND.");
        refused(BEYOND, "no COUNTINGS", () -> x.gives(0));
        bars(0, 1);
        for (int kind = 0; kind < 8; kind++) {
            x.counting(kind, 1, 0, 50, 999);
            due("no RINGS, KIND " + kind, x.gives(kind), 0);
        }
        beyond("COUNTING", v -> x.gives(v), -1, 8, 12, LEAST, MOST);
        edge(15, "It GIVES: COUNTING: MEETS slid by 0.");
        bars(0, 1);
        rings(0, 1, 100, 200);
        rings(1, 1, 101, 202);
        x.counting(0, 1, 0, 1, 100);
        x.counting(0, 1, 0, 2, 1);
        x.counting(0, 1, 1, 2, 1);
        due("w 1", x.gives(0), 1);
        due("w 2", x.gives(1), 2);
        due("LINE 1", x.gives(2), 0);
    }

    /** a at 1000; b so that it meets by 1 to 5 times the SLIDE 10, one after the other. */
    private static void givesWarm() {
        edge(15, "WARM: MEETS slid by d, 2 d, 3 d, 4 d, 5 d together, by 5.");
        bars(0, 1);
        rings(0, 1, 1000);
        rings(1, 1, 1000, 940, 1010);
        x.counting(1, 1, 0, 0, 10);
        due("by 0, 6 d and -d is none", x.gives(0), 0);
        rings(1, 1, 990, 980, 970, 960);
        due("4 by 5 is cut", x.gives(0), 0);
        rings(1, 1, 950);
        due("5 by 5", x.gives(0), 1);
        rings(0, 1, 3000);
        rings(1, 1, 2990, 2980, 2970, 2960);
        due("9 by 5 is cut", x.gives(0), 1);
        rings(1, 1, 2950);
        due("10 by 5", x.gives(0), 2);
        edge(15, "PUSHED: as COUNTING, less as WARM, 0 at least.");
        bars(0, 1);
        rings(0, 1, 1000);
        rings(1, 1, 990, 980, 970, 960, 950);
        x.counting(2, 1, 0, 0, 10);
        due("0 less 1", x.gives(0), 0);
        rings(1, 1, 1000);
        due("1 less 1", x.gives(0), 0);
        rings(0, 1, 5000);
        rings(1, 1, 5000);
        due("2 less 1", x.gives(0), 1);
        edge(15, "5 d together, by 5");
        bars(0, 1);
        rings(0, 1, 9999);
        rings(1, 1, 5004);
        x.counting(1, 1, 0, 50, 999);
        due("1 by 5", x.gives(0), 0);
        rings(0, 1, 9999, 9999, 9999, 9999);
        due("5 by 5, all by 5 times 999", x.gives(0), 1);
    }

    private static void givesNear() {
        edge(15, "NEAR: how many RINGS of a COUNT, less as COUNTING.");
        bars(0, 1);
        x.counting(3, 1, 0, 5, 1);
        x.counting(3, 1, 500, 5, 1);
        rings(1, 900, 5000);
        due("a has none", x.gives(0), 0);
        rings(0, 500, 100, 200);
        due("none meet", x.gives(0), 2);
        due("none COUNT", x.gives(1), 0);
        rings(1, 900, 105);
        due("one meets", x.gives(0), 1);
        rings(1, 900, 194);
        due("6 away meets not", x.gives(0), 1);
        rings(1, 900, 195);
        due("all meet", x.gives(0), 0);
    }

    private static void givesLined() {
        edge(15, "LINED: of LINES l, l + 50, l + 100 and so on up to 999 the greatest of (MEETS slid by 0 less MEETS "
                + "slid by d, both by that LINE).");
        bars(0, 1);
        rings(0, 999, 1000);
        rings(1, 999, 990);
        int[] lines = {0, 49, 899, 948, 949, 950, 951, 998, 999};
        // One meets by d, by LINES below 999; LINE 999 itself, where none does, is reached from 49, 899, 949, 999.
        int[] gives = {-1, 0, 0, -1, 0, -1, -1, -1, 0};
        for (int i = 0; i < lines.length; i++) {
            x.counting(4, 1, lines[i], 0, 10);
            due("LINE " + lines[i] + " and on", x.gives(i), gives[i]);
        }
        edge(15, "the greatest of (MEETS slid by 0 less MEETS slid by d, both by that LINE)");
        bars(0, 1);
        rings(0, 100, 1000);
        rings(1, 100, 990);
        rings(0, 200, 3000);
        rings(1, 200, 3000);
        x.counting(4, 1, 0, 0, 10);
        x.counting(4, 1, 49, 0, 10);
        x.counting(4, 1, 100, 0, 10);
        x.counting(4, 1, 150, 0, 10);
        x.counting(4, 1, 200, 0, 10);
        due("LINE 100 has 1 less 0", x.gives(0), 1);
        due("LINE 149 has it, too", x.gives(1), 1);
        due("LINE 100 is the first", x.gives(2), 1);
        due("LINE 150 still", x.gives(3), 1);
        due("LINE 200 has none", x.gives(4), 0);
    }

    private static void givesTwice() {
        edge(15, "TWICE: as COUNTING, and 1 for each RING of b that COUNTS and is SHOWN w away at most from two RINGS of "
                + "a that COUNT, or more.");
        bars(0, 1);
        x.counting(5, 1, 10, 5, 1);
        rings(1, 500, 100);
        due("near none", x.gives(0), 0);
        rings(0, 500, 95);
        due("near one", x.gives(0), 1);
        rings(0, 500, 106);
        due("the other is 6 away", x.gives(0), 1);
        rings(0, 10, 100);
        due("the other isn't above the LINE", x.gives(0), 1);
        rings(0, 500, 105);
        due("near two, 5 away either way", x.gives(0), 3);
        rings(0, 500, 100);
        due("near three", x.gives(0), 4);
        rings(1, 10, 100);
        due("one of b that COUNTS not", x.gives(0), 4);
        rings(1, 500, 100);
        // Now 106 meets none still; b's two are near three each.
        due("each of b", x.gives(0), 5);
        rings(1, 500, 110);
        // 110 is near 105 and 106, so 106 meets, and one more of b is near two.
        due("one more of b", x.gives(0), 7);
        edge(15, "from two RINGS of a that COUNT, or more");
        bars(0, 1);
        x.counting(5, 1, 0, 0, 1);
        rings(0, 1, 100, 100);
        rings(1, 1, 100);
        due("w 0, like ones", x.gives(0), 3);
        edge(15, "SHOWN w away at most from two RINGS of a that COUNT");
        bars(0, 1);
        x.counting(5, 1, 0, 50, 1);
        rings(0, 1, 0);
        due("b has none", x.gives(0), 0);
        rings(1, 1, 0);
        due("near one alone, at TENTH 0", x.gives(0), 1);
        x.clock(0, -999);
        x.clock(1, -999);
        due("near one alone, SHOWN below 0", x.gives(0), 1);
        rings(0, 1, 50);
        due("near two, SHOWN below 0", x.gives(0), 3);
        x.clock(1, 999);
        due("near none", x.gives(0), 0);
        edge(15, "1 for each RING of b that COUNTS");
        bars(0, 1);
        x.counting(5, 1, 0, 50, 1);
        rings(0, 1, 0, 0);
        due("two of a, none of b", x.gives(0), 0);
        rings(1, 1, 9999);
        due("two of a, one of b far from them", x.gives(0), 0);
    }

    private static void givesSlid() {
        edge(15, "SLID: MEETS slid by d.");
        bars(0, 1);
        rings(0, 1, 1999, 1001);
        rings(1, 1, 1000);
        x.counting(6, 1, 0, 0, 1);
        x.counting(6, 1, 0, 0, 999);
        x.counting(6, 1, 0, 0, 998);
        x.counting(6, 10, 0, 0, 1);
        due("d 1", x.gives(0), 1);
        due("d 999", x.gives(1), 1);
        due("d 998", x.gives(2), 0);
        due("b is slid, not a", x.gives(3), 0);
    }

    private static void givesOff() {
        edge(15, "OFF: as SLID, but slid by CLOCK of a's HOUSE less that of b's.");
        bars(0, 1, 1);
        rings(0, 1, 500);
        rings(1, 1, 500);
        rings(2, 1, 500);
        x.counting(7, 1, 0, 0, 999);
        x.counting(7, 10, 0, 0, 1);
        x.counting(7, 12, 0, 0, 1);
        x.counting(0, 1, 0, 50, 1);
        due("like CLOCKS", x.gives(0), 1);
        x.clock(0, 999);
        x.clock(1, -999);
        due("slid by 1998", x.gives(0), 1);
        due("slid by -1998", x.gives(1), 1);
        due("of one HOUSE, slid by 0", x.gives(2), 1);
        due("COUNTING is slid by 0", x.gives(3), 0);
        x.clock(0, -999);
        x.clock(1, 999);
        due("slid by -1998", x.gives(0), 1);
        due("slid by 1998", x.gives(1), 1);
        x.clock(1, 998);
        due("CLOCKS as they are now", x.gives(0), 1);
        edge(15, "slid by CLOCK of a's HOUSE less that of b's");
        bars(2, 2, 2, 2, 0, 1);
        x.clock(0, 300);
        x.clock(1, -70);
        x.clock(2, 999);
        rings(4, 1, 500);
        rings(5, 1, 500);
        rings(0, 1, 500);
        int[] pairs = {45, 54, 5, 50, 40, 4};
        for (int i = 0; i < pairs.length; i++) {
            x.counting(7, pairs[i], 0, 0, 1);
            due("BARS " + pairs[i], x.gives(i), 1);
        }
    }
}
