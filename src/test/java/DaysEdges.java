/** Promises 21 to 27: what was let in, clocks that were off, days. */
final class DaysEdges extends Edge {
    static void all() {
        lets();
        seen();
        seenByClocks();
        wrongOnes();
        nearRefused();
        hoursOfE();
        hoursOfSeveral();
        hoursOfLw();
        spreads();
        spreadEnds();
        spreadRefused();
        stars();
        starsRefused();
        tried();
        triedRefused();
    }

    private static void lets() {
        edge(21, "LETS 0, 1, .. (at most 10): TENTHS at which a third hand let something in.");
        due("the least", x.let(0), 0);
        due("the most", x.let(9999), 1);
        for (int i = 2; i <= 9; i++) {
            due("LET " + i, x.let(0), i);
        }
        refusedEach(FULL, "an eleventh", v -> x.let(v), 0, 9999);
        due("ten", x.count(4), 10);
        edge(21, "A LET: its number. BEYOND. FULL.");
        beyond("TENTH", v -> x.let(v), -1, 10000, LEAST, MOST);
        due("none came", x.count(4), 0);
        for (int i = 0; i < 10; i++) {
            x.let(i);
        }
        beyond("TENTH ahead of FULL", v -> x.let(v), -1, 10000, LEAST, MOST);
    }

    private static void seen() {
        edge(22, "SEEN by a BAR, as bits.");
        bars(0, 0);
        due("no LETS, no RINGS", x.seen(0, 0, 50), 0);
        rings(0, 1, 500);
        due("no LETS", x.seen(0, 0, 50), 0);
        for (int i = 0; i < 10; i++) {
            x.let(i == 0 || i == 9 ? 500 : 800);
        }
        due("no RINGS", x.seen(1, 0, 50), 0);
        due("the first and the last", x.seen(0, 0, 0), 1 + 512);
        rings(0, 1, 800);
        due("all ten", x.seen(0, 0, 0), 1023);
        edge(22, "LETS for which a RING of it that COUNTS is SHOWN w away at most from the LET and CLOCK together.");
        bars(0);
        x.ring(0, 500, 300);
        x.let(450);
        x.let(550);
        x.let(449);
        x.let(551);
        x.let(500);
        due("w 50", x.seen(0, 0, 50), 1 + 2 + 16);
        due("w 49", x.seen(0, 0, 49), 16);
        due("w 0", x.seen(0, 0, 0), 16);
        due("LINE 299", x.seen(0, 299, 0), 16);
        due("LINE 300", x.seen(0, 300, 0), 0);
        read("0", 0);
        due("it COUNTS not by its WAY", x.seen(0, 0, 50), 0);
    }

    private static void seenByClocks() {
        edge(22, "w away at most from the LET and CLOCK together");
        bars(0, 1);
        rings(0, 1, 0);
        rings(1, 1, 9999);
        x.let(0);
        x.let(9999);
        x.clock(0, -999);
        x.clock(1, 999);
        due("the least CLOCK", x.seen(0, 0, 0), 1);
        due("the most CLOCK", x.seen(1, 0, 0), 2);
        due("none is wrong", x.wrong(0, 0, 0) + x.wrong(1, 0, 0), 0);
    }

    private static void wrongOnes() {
        edge(23, "WRONG: RINGS of it that COUNT and are so near none.");
        bars(0, 0);
        due("no RINGS", x.wrong(0, 0, 50), 0);
        x.ring(0, 500, 300);
        x.ring(0, 600, 300);
        due("no LETS", x.wrong(0, 0, 50), 2);
        x.let(550);
        due("w 50", x.wrong(0, 0, 50), 0);
        due("w 49", x.wrong(0, 0, 49), 2);
        x.let(499);
        due("w 1", x.wrong(0, 0, 1), 1);
        due("w 0", x.wrong(0, 0, 0), 2);
        due("LINE 299", x.wrong(0, 299, 0), 2);
        due("LINE 300", x.wrong(0, 300, 0), 0);
        due("of another BAR", x.wrong(1, 0, 0), 0);
        read("0", 0);
        due("none COUNT by their WAY", x.wrong(0, 0, 0), 0);
    }

    private static void nearRefused() {
        edge(22, "BEYOND: BAR, l, w.");
        refused(BEYOND, "no BARS", () -> x.seen(0, 0, 0));
        bars(0);
        beyond("BAR", v -> x.seen(v, 0, 0), -1, 1, LEAST, MOST);
        beyond("l", v -> x.seen(0, v, 0), -1, 1000, LEAST, MOST);
        beyond("w", v -> x.seen(0, 0, v), -1, 51, LEAST, MOST);
        due("the most", x.seen(0, 999, 50), 0);
        edge(23, "WRONG: how many RINGS of a BAR. BEYOND likewise.");
        refused(BEYOND, "no BARS", () -> x.wrong(0, 0, 0));
        bars(0);
        beyond("BAR", v -> x.wrong(v, 0, 0), -1, 1, LEAST, MOST);
        beyond("l", v -> x.wrong(0, v, 0), -1, 1000, LEAST, MOST);
        beyond("w", v -> x.wrong(0, 0, v), -1, 51, LEAST, MOST);
        due("the most", x.wrong(0, 999, 50), 0);
        edge(23, "BEYOND likewise.");
        bars(0);
        for (int i = 0; i < 96; i++) {
            x.ring(0, i, 1);
        }
        due("all 96", x.wrong(0, 0, 50), 96);
        x.let(0);
        due("0 to 50 are near", x.wrong(0, 0, 50), 45);
    }

    private static void hoursOfE() {
        edge(24, "HOURS: of slides -e to e (e 0 to 400) the one with most MEETS");
        bars(0, 1, 2);
        due("no RINGS", x.hours(1, 0, 400, 0), 0);
        due("no RINGS", x.hours(1, 0, 400, 1), 0);
        rings(0, 1, 1000);
        rings(1, 1, 600);
        rings(2, 1, 1400);
        due("400 is in e 400", x.hours(1, 0, 400, 0), 400);
        due("-400 is in e 400", x.hours(2, 0, 400, 0), -400);
        due("1 by 400", x.hours(1, 0, 400, 1), 1);
        due("1 by -400", x.hours(2, 0, 400, 1), 1);
        due("400 isn't in e 399", x.hours(1, 0, 399, 1), 0);
        due("-400 isn't in e 399", x.hours(2, 0, 399, 1), 0);
        due("none has any, so 0", x.hours(1, 0, 399, 0), 0);
        due("350 is enough by WINDOW 50", x.hours(1, 50000, 350, 0), 350);
        due("349 isn't", x.hours(1, 50000, 349, 1), 0);
        due("-350 is enough by WINDOW 50", x.hours(2, 50000, 400, 0), -350);
        due("e 0: slide", x.hours(1, 0, 0, 0), 0);
        due("e 0: MEETS", x.hours(1, 0, 0, 1), 0);
        rings(1, 1, 1000);
        due("e 0: one meets", x.hours(1, 0, 0, 1), 1);
        due("e 1", x.hours(1, 0, 1, 0), 0);
        beyond("e", v -> x.hours(1, 0, v, 0), -1, 401, LEAST, MOST);
    }

    private static void hoursOfSeveral() {
        edge(24, "of several the one nearest to 0, then the lesser.");
        bars(0, 1);
        rings(0, 1, 1000);
        rings(1, 1, 990, 1010);
        due("10 and -10", x.hours(1, 0, 400, 0), -10);
        due("WINDOW 9: 1 and -1", x.hours(1, 9000, 400, 0), -1);
        due("WINDOW 10: 0", x.hours(1, 10000, 400, 0), 0);
        rings(1, 1, 991);
        due("9 is nearer than -10", x.hours(1, 0, 400, 0), 9);
        rings(1, 1, 1008);
        due("-8 is nearer than 9", x.hours(1, 0, 400, 0), -8);
        rings(0, 1, 2000);
        rings(1, 1, 1700);
        due("300 has no more", x.hours(1, 0, 400, 0), -8);
        rings(1, 1, 700);
        due("300 has more", x.hours(1, 0, 400, 0), 300);
        due("so many", x.hours(1, 0, 400, 1), 2);
        due("e 299 has it not", x.hours(1, 0, 299, 0), -8);
        edge(24, "the one with most MEETS");
        bars(0, 1);
        for (int i = 0; i < 48; i++) {
            x.ring(0, 100 * i, 1);
        }
        for (int i = 0; i < 48; i++) {
            x.ring(1, 100 * i + 60, 1);
        }
        due("48 by -60", x.hours(1, 0, 400, 1), 48);
        due("-60, not 40, which has 47", x.hours(1, 0, 400, 0), -60);
        due("e 59: 40", x.hours(1, 0, 59, 0), 40);
        due("WINDOW 50: -10, where all meet", x.hours(1, 50000, 400, 0), -10);
        edge(24, "of slides -e to e");
        bars(0, 1);
        rings(0, 1, 1000);
        rings(1, 1, 990, 1000, 1010);
        due("three near one are one", x.hours(1, 10000, 0, 1), 1);
        due("one near three are three", x.hours(10, 10000, 0, 1), 3);
        rings(0, 1, 2000);
        rings(1, 1, 999, 1999);
        due("1, though 0 has some", x.hours(1, 0, 400, 0), 1);
        due("two by 1", x.hours(1, 0, 400, 1), 2);
        rings(0, 1, 3000);
        rings(1, 1, 1001, 2001, 3001);
        due("-1, though 0 has some", x.hours(1, 0, 400, 0), -1);
        due("three by -1", x.hours(1, 0, 400, 1), 3);
    }

    private static void hoursOfLw() {
        edge(24, "HOURS by lw (1000 * w and l) and e: what 0 the slide, 1 how many MEETS. BEYOND.");
        refused(BEYOND, "no BARS", () -> x.hours(1, 0, 0, 0));
        bars(0, 1);
        rings(0, 999, 1000);
        rings(1, 999, 1050);
        due("LINE 998, WINDOW 0", x.hours(1, 998, 400, 0), -50);
        due("LINE 999, WINDOW 0", x.hours(1, 999, 400, 1), 0);
        due("LINE 0, WINDOW 1", x.hours(1, 1000, 400, 0), -49);
        due("LINE 998, WINDOW 1", x.hours(1, 1998, 400, 0), -49);
        due("LINE 998, WINDOW 49", x.hours(1, 49998, 400, 0), -1);
        due("LINE 999, WINDOW 1", x.hours(1, 1999, 400, 1), 0);
        due("LINE 998, WINDOW 50", x.hours(1, 50998, 0, 1), 1);
        due("LINE 999, WINDOW 50", x.hours(1, 50999, 400, 1), 0);
        beyond("lw", v -> x.hours(1, v, 400, 0), -1, 51000, LEAST, MOST);
        beyond("what", v -> x.hours(1, 0, 400, v), -1, 2, LEAST, MOST);
        beyond("ab", v -> x.hours(v, 0, 400, 0), -1, 0, 2, 11, 20, LEAST, MOST);
    }

    private static void spreads() {
        edge(25, "RINGS that COUNT by parts 0 to 11, that is 12 times the rest of when it is SHOWN by the PERIOD (0 to "
                + "that less 1), by the PERIOD: how many in each, times itself, all together.");
        bars(0, 0);
        due("no RINGS", x.spread(0, 0, 12), 0);
        rings(0, 5, 0, 1);
        due("24: rests 0 and 1 are in part 0", x.spread(0, 0, 24), 4);
        due("12: they are in 0 and 1", x.spread(0, 0, 12), 2);
        rings(0, 5, 2);
        due("24: rest 2 is in part 1", x.spread(0, 0, 24), 5);
        rings(0, 5, 23, 22);
        due("24: rests 22 and 23 are in part 11", x.spread(0, 0, 24), 4 + 1 + 4);
        rings(0, 5, 24);
        due("24: 24 is in part 0 again", x.spread(0, 0, 24), 9 + 1 + 4);
        rings(1, 4, 0);
        due("of another BAR", x.spread(1, 0, 24), 1);
        due("LINE 4", x.spread(0, 4, 24), 14);
        due("LINE 5", x.spread(0, 5, 24), 0);
        read("0", 0);
        due("none COUNT by their WAY", x.spread(0, 0, 24), 0);
    }

    private static void spreadEnds() {
        edge(25, "(0 to that less 1)");
        bars(0);
        rings(0, 1, 0, 998, 999, 83, 84);
        // By 999: rests 0, 998, 0, 83, 84 are in parts 0, 11, 0, 0 (996 by 999), 1 (1008 by 999).
        due("999", x.spread(0, 0, 999), 9 + 1 + 1);
        x.clock(0, -1);
        // Rests -1, 997, 998, 82, 83: the first is 998; parts 11, 11, 11, 0, 0.
        due("SHOWN at -1 has rest 998", x.spread(0, 0, 999), 9 + 4);
        x.clock(0, -999);
        due("SHOWN at -999 has rest 0", x.spread(0, 0, 999), 9 + 1 + 1);
        edge(25, "times itself, all together");
        bars(0);
        for (int i = 0; i < 96; i++) {
            x.ring(0, 5000, 1);
        }
        due("96 in one part", x.spread(0, 0, 12), 9216);
    }

    private static void spreadRefused() {
        edge(25, "SPREAD of a BAR by a LINE and a PERIOD (12 to 999)");
        bars(0);
        rings(0, 1, 998);
        due("the least", x.spread(0, 0, 12), 1);
        due("the most", x.spread(0, 0, 999), 1);
        beyond("PERIOD", v -> x.spread(0, 0, v), 11, 1000, 0, -1, -12, LEAST, MOST);
        edge(25, "SPREAD. BEYOND: BAR, l, PERIOD.");
        refused(BEYOND, "no BARS", () -> x.spread(0, 0, 12));
        bars(0);
        beyond("BAR", v -> x.spread(v, 0, 12), -1, 1, LEAST, MOST);
        beyond("l", v -> x.spread(0, v, 12), -1, 1000, LEAST, MOST);
        due("LINE 999", x.spread(0, 999, 12), 0);
    }

    private static void stars() {
        edge(26, "STARS: of PERIODS from one to another one (40 at most) the one with the greatest SPREAD, of several the "
                + "least.");
        bars(0, 0);
        due("no RINGS, 40 of like ones", x.stars(0, 0, 12, 51), 12);
        due("no RINGS, the last 40", x.stars(0, 0, 960, 999), 960);
        rings(0, 1, 0, 51);
        // 51 is in part 0, as 0 is, by PERIODS 25 and 48 to 51 alone.
        due("only the first has it", x.stars(0, 0, 25, 47), 25);
        due("none has it", x.stars(0, 0, 26, 47), 26);
        due("only the last has it", x.stars(0, 0, 26, 48), 48);
        due("the last ones have it", x.stars(0, 0, 26, 51), 48);
        due("all have it", x.stars(0, 0, 48, 51), 48);
        rings(1, 1, 0, 80);
        // 80 is in part 1 by 960 still, in part 0 by 961.
        due("only the last of 40 has it", x.stars(1, 0, 922, 961), 961);
        due("the first of 39 that have it", x.stars(1, 0, 960, 999), 961);
        due("one PERIOD, the least", x.stars(1, 0, 12, 12), 12);
        due("one PERIOD, the most", x.stars(1, 0, 999, 999), 999);
    }

    private static void starsRefused() {
        edge(26, "STARS of PERIODS from one to another one. BEYOND: BAR, l, a PERIOD; also if to is ahead of from, or there "
                + "are more than 40.");
        refused(BEYOND, "no BARS", () -> x.stars(0, 0, 12, 12));
        bars(0);
        beyond("41 of them, from", v -> x.stars(0, 0, v, v + 40), 12, 100, 959);
        for (int from = 12; from <= 960; from += 948) {
            due("40 of them from " + from, x.stars(0, 0, from, from + 39), from);
        }
        beyond("to is ahead of from", v -> x.stars(0, 0, v + 1, v), 12, 100, 998);
        beyond("far ahead", v -> x.stars(0, 0, v, 12), 52, 999);
        beyond("from", v -> x.stars(0, 0, v, 20), 11, 0, -1, LEAST, MOST);
        beyond("to", v -> x.stars(0, 0, 990, v), 1000, 0, LEAST, MOST);
        refused(BEYOND, "from and to 11", () -> x.stars(0, 0, 11, 11));
        refused(BEYOND, "from and to 1000", () -> x.stars(0, 0, 1000, 1000));
        refused(BEYOND, "as far apart as can be", () -> x.stars(0, 0, LEAST, MOST));
        refused(BEYOND, "the other way", () -> x.stars(0, 0, MOST, LEAST));
        beyond("BAR", v -> x.stars(v, 0, 12, 12), -1, 1, LEAST, MOST);
        beyond("l", v -> x.stars(0, v, 12, 12), -1, 1000, LEAST, MOST);
        due("LINE 999", x.stars(0, 999, 12, 12), 12);
    }

    private static void tried() {
        edge(27, "TRIED: for how many of them SPREAD is no less than for a told one.");
        bars(0, 0);
        due("no RINGS: all 40", x.tried(0, 0, 12, 51, 999), 40);
        due("one", x.tried(0, 0, 999, 999, 12), 1);
        rings(0, 1, 0, 51);
        // Both are in part 0 by 48 to 51, and not by 44 to 47.
        due("as great as by 51", x.tried(0, 0, 44, 51, 51), 4);
        due("as great as by 25, which is not of them", x.tried(0, 0, 44, 51, 25), 4);
        due("only the first", x.tried(0, 0, 51, 60, 51), 1);
        due("only the last", x.tried(0, 0, 26, 48, 51), 1);
        due("no less than by 52, where they are apart", x.tried(0, 0, 44, 51, 52), 8);
        due("the told one needn't be of them", x.tried(0, 0, 52, 60, 51), 0);
        due("nor less than itself", x.tried(0, 0, 51, 51, 51), 1);
    }

    private static void triedRefused() {
        edge(27, "TRIED, for a told PERIOD. BEYOND likewise.");
        refused(BEYOND, "no BARS", () -> x.tried(0, 0, 12, 12, 12));
        bars(0);
        beyond("41 of them, from", v -> x.tried(0, 0, v, v + 40, 12), 12, 959);
        beyond("to is ahead of from", v -> x.tried(0, 0, v + 1, v, 12), 12, 998);
        beyond("from", v -> x.tried(0, 0, v, 20, 12), 11, LEAST, MOST);
        beyond("to", v -> x.tried(0, 0, 990, v, 12), 1000, LEAST, MOST);
        refused(BEYOND, "as far apart as can be", () -> x.tried(0, 0, LEAST, MOST, 12));
        beyond("told one", v -> x.tried(0, 0, 12, 12, v), 11, 1000, 0, LEAST, MOST);
        beyond("BAR", v -> x.tried(v, 0, 12, 12, 12), -1, 1, LEAST, MOST);
        beyond("l", v -> x.tried(0, v, 12, 12, 12), -1, 1000, LEAST, MOST);
        due("the least told one", x.tried(0, 999, 960, 999, 12), 40);
        due("the most told one", x.tried(0, 0, 12, 51, 999), 40);
    }
}
