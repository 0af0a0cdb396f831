/** Promises 16 to 20: odds by slides, and lines tried. */
final class SlidesEdges extends Edge {
    static void all() {
        chanceOfM();
        chanceParts();
        chanceRefused();
        aheadOfX();
        aheadOfMany();
        aheadRefused();
        lines();
        chosen();
        chosenBelow();
        chosenRefused();
        paid();
        paidAll();
        paidRefused();
    }

    /** COUNTING 0 of SLIDE 10 that meets by 0, 39 and 40 SLIDES. */
    private static void fortySlides() {
        bars(0, 1);
        rings(0, 500, 790, 800);
        rings(1, 500, 400, 800);
        x.counting(0, 1, 0, 0, 10);
    }

    private static void chanceOfM() {
        edge(16, "By m SLIDES (1 to 40) of a COUNTING: MEETS of its BARS by its WINDOW, slid by d, 2 d, .., m d.");
        fortySlides();
        due("38 SLIDES: above", x.chance(0, 38, 0), 0);
        due("39 SLIDES: above", x.chance(0, 39, 0), 1);
        due("39 SLIDES: below", x.chance(0, 39, 1), 39);
        due("40 SLIDES: above", x.chance(0, 40, 0), 1);
        due("40 SLIDES: below", x.chance(0, 40, 1), 20);
        beyond("m", v -> x.chance(0, v, 0), 0, 41, -1, LEAST, MOST);
        rings(1, 500, 790);
        // Now two meet by 0 (790, 800), one by 1 (800 from 790).
        due("1 SLIDE: above", x.chance(0, 1, 0), 0);
        due("1 SLIDE: below", x.chance(0, 1, 1), 1);
        rings(1, 500, 780);
        due("two meet by 1 SLIDE: above", x.chance(0, 1, 0), 1);
        due("two meet by 1 SLIDE: below", x.chance(0, 1, 1), 1);
    }

    private static void chanceParts() {
        edge(16, "CHANCE: how many of these by its LINE are no fewer than MEETS slid by 0, by m, as a fraction in lowest "
                + "terms (0 by 1, if none is).");
        bars(0, 1);
        rings(0, 500, 1000, 2000);
        x.counting(0, 1, 0, 0, 10);
        x.counting(0, 1, 400, 0, 10);
        due("0 is no fewer than 0: above", x.chance(0, 40, 0), 1);
        due("0 is no fewer than 0: below", x.chance(0, 40, 1), 1);
        rings(1, 500, 1000);
        due("fewer each time: 0", x.chance(0, 40, 0), 0);
        due("fewer each time: by 1", x.chance(0, 40, 1), 1);
        rings(1, 400, 990);
        due("as many by 1 SLIDE of 4: above", x.chance(0, 4, 0), 1);
        due("as many by 1 SLIDE of 4: below", x.chance(0, 4, 1), 4);
        due("by its LINE fewer", x.chance(1, 4, 0), 0);
        rings(1, 500, 1980, 980);
        due("more by 2 SLIDES, 2 of 4: above", x.chance(0, 4, 0), 1);
        due("more by 2 SLIDES, 2 of 4: below", x.chance(0, 4, 1), 2);
        due("2 of 6: below", x.chance(0, 6, 1), 3);
        due("2 of 5: above", x.chance(0, 5, 0), 2);
        due("2 of 5: below", x.chance(0, 5, 1), 5);
    }

    private static void chanceRefused() {
        edge(16, "CHANCE by m SLIDES: part 0 above, 1 below the line. BEYOND.");
        refused(BEYOND, "no COUNTINGS", () -> x.chance(0, 1, 0));
        fortySlides();
        beyond("part", v -> x.chance(0, 40, v), -1, 2, LEAST, MOST);
        beyond("COUNTING", v -> x.chance(v, 40, 0), -1, 1, LEAST, MOST);
        beyond("m", v -> x.chance(0, v, 1), 0, 41, LEAST, MOST);
    }

    private static void aheadOfX() {
        edge(17, "AHEAD: the least k, so that no more than x of 100 of them are k or more.");
        fortySlides();
        // Of 40 one SLIDE has 1 and one has 1: that is 5 of 100.
        due("x 5", x.ahead(0, 40, 5), 1);
        due("x 4", x.ahead(0, 40, 4), 2);
        due("x 0", x.ahead(0, 40, 0), 2);
        due("x 99", x.ahead(0, 40, 99), 1);
        due("x 100", x.ahead(0, 40, 100), 0);
        // Of 39 one has: 2.56 of 100.
        due("x 3 of 39", x.ahead(0, 39, 3), 1);
        due("x 2 of 39", x.ahead(0, 39, 2), 2);
        due("none of 38 meets, x 0", x.ahead(0, 38, 0), 1);
        due("m 1, x 0", x.ahead(0, 1, 0), 1);
        due("m 1, x 99", x.ahead(0, 1, 99), 1);
        due("m 1, x 100", x.ahead(0, 1, 100), 0);
    }

    private static void aheadOfMany() {
        edge(17, "AHEAD: the least k");
        bars(0, 1);
        rings(1, 1, 500);
        for (int i = 0; i < 95; i++) {
            x.ring(0, 500, 1);
        }
        x.counting(0, 1, 0, 50, 1);
        due("95 meet by each SLIDE, the most there can, x 0", x.ahead(0, 40, 0), 96);
        due("95 meet by each SLIDE, x 99", x.ahead(0, 40, 99), 96);
        due("95 meet by each SLIDE, x 100", x.ahead(0, 40, 100), 0);
    }

    private static void aheadRefused() {
        edge(17, "AHEAD by m SLIDES and x (0 to 100). BEYOND.");
        refused(BEYOND, "no COUNTINGS", () -> x.ahead(0, 1, 0));
        fortySlides();
        beyond("x", v -> x.ahead(0, 40, v), -1, 101, LEAST, MOST);
        beyond("m", v -> x.ahead(0, v, 0), 0, 41, -1, LEAST, MOST);
        beyond("COUNTING", v -> x.ahead(v, 40, 0), -1, 1, LEAST, MOST);
    }

    private static void lines() {
        edge(18, "LINES TRIED 0, 1, .. (at most 6; 0 to 999)");
        due("the least", x.line(0), 0);
        due("the most", x.line(999), 1);
        due("one that was tried", x.line(0), 2);
        due("fourth", x.line(500), 3);
        due("fifth", x.line(500), 4);
        due("sixth", x.line(998), 5);
        refusedEach(FULL, "a seventh", v -> x.line(v), 0, 500, 999);
        due("six", x.count(3), 6);
        edge(18, "A LINE is TRIED: its number. BEYOND. FULL.");
        beyond("l", v -> x.line(v), -1, 1000, LEAST, MOST);
        due("none came", x.count(3), 0);
        for (int i = 0; i < 6; i++) {
            x.line(i);
        }
        beyond("l ahead of FULL", v -> x.line(v), -1, 1000, LEAST, MOST);
    }

    /** a and b meet by 0 at heights 300; by 1 SLIDE of 10 at heights 100 and 300. */
    private static void twoHeights() {
        bars(0, 1);
        rings(0, 300, 1000);
        rings(1, 300, 1000, 990);
        rings(0, 100, 3000);
        rings(1, 100, 2990);
        x.counting(0, 1, 0, 0, 10);
    }

    private static void chosen() {
        edge(19, "CHOSEN: the one with the greatest SCORE at 0, of several the least: its number.");
        twoHeights();
        x.line(0);
        due("the only one", x.chosen(0, 2), 0);
        // By 2 SLIDES: LINE 0: 2 * 1 - 2 is 0; LINE 100: 2 * 1 - 1 is 1; LINE 300: 0.
        x.line(300);
        due("like ones", x.chosen(0, 2), 0);
        x.line(100);
        due("a greater one", x.chosen(0, 2), 2);
        x.line(299);
        due("as great, a later one", x.chosen(0, 2), 2);
        x.line(50);
        x.line(150);
        due("as great, the last one", x.chosen(0, 2), 2);
        due("by 1 SLIDE: LINE 0 has -1, LINE 300 has 0", x.chosen(0, 1), 1);
        due("by 40 SLIDES", x.chosen(0, 40), 2);
        edge(19, "of several the least: its number");
        twoHeights();
        x.line(200);
        x.line(150);
        due("a lesser LINE with a greater number", x.chosen(0, 2), 0);
        edge(19, "LINES TRIED 0, 1, .. (at most 6; 0 to 999): SCORE of one at s SLIDES (0 to m): m times MEETS by it slid "
                + "by s d, less MEETS by it of all m together.");
        twoHeights();
        x.counting(6, 1, 999, 0, 10);
        for (int i = 0; i < 5; i++) {
            x.line(0);
        }
        x.line(100);
        due("the sixth", x.chosen(0, 40), 5);
        due("a COUNTING's own LINE and KIND play no part", x.chosen(1, 40), 5);
        refusedEach(FULL, "a seventh", v -> x.line(v), 0, 999);
        due("the six are as they were", x.chosen(0, 40), 5);
        due("and so is what they pay", x.paid(0, 40, 1), 40);
    }

    private static void chosenBelow() {
        edge(19, "the greatest SCORE at 0");
        bars(0, 1);
        rings(0, 300, 1000);
        rings(1, 300, 990, 980);
        rings(0, 100, 3000);
        rings(1, 100, 2990);
        x.counting(0, 1, 0, 0, 10);
        x.line(0);
        x.line(100);
        // None meets by 0: LINE 0 has -3, LINE 100 has -2 by 2 SLIDES.
        due("all are below 0", x.chosen(0, 2), 1);
        due("-2 and -1 by 1 SLIDE", x.chosen(0, 1), 1);
    }

    private static void chosenRefused() {
        edge(19, "CHOSEN by m SLIDES. BEYOND. NONE: no LINE is TRIED.");
        refused(BEYOND, "no COUNTINGS, no LINES", () -> x.chosen(0, 1));
        twoHeights();
        refused(NONE, "no LINES", () -> x.chosen(0, 1));
        refused(NONE, "no LINES", () -> x.chosen(0, 40));
        beyond("m ahead of NONE", v -> x.chosen(0, v), 0, 41, LEAST, MOST);
        beyond("COUNTING ahead of NONE", v -> x.chosen(v, 1), -1, 1, LEAST, MOST);
        x.line(0);
        due("m 1", x.chosen(0, 1), 0);
        due("m 40", x.chosen(0, 40), 0);
        beyond("m", v -> x.chosen(0, v), 0, 41, -1, LEAST, MOST);
        beyond("COUNTING", v -> x.chosen(v, 1), -1, 1, LEAST, MOST);
    }

    private static void paid() {
        edge(20, "PAID: for how many s (1 to m) the greatest SCORE of all at s is no less than the greatest at 0, by m, "
                + "likewise.");
        fortySlides();
        x.line(700);
        due("SCORES are all 0: above", x.paid(0, 40, 0), 1);
        due("SCORES are all 0: below", x.paid(0, 40, 1), 1);
        x.line(0);
        due("38: none: above", x.paid(0, 38, 0), 0);
        due("38: none: below", x.paid(0, 38, 1), 1);
        due("39: the last one: above", x.paid(0, 39, 0), 1);
        due("39: the last one: below", x.paid(0, 39, 1), 39);
        due("40: two: above", x.paid(0, 40, 0), 1);
        due("40: two: below", x.paid(0, 40, 1), 20);
        due("1: none: above", x.paid(0, 1, 0), 0);
        due("1: none: below", x.paid(0, 1, 1), 1);
    }

    private static void paidAll() {
        edge(20, "the greatest SCORE of all at s is no less than the greatest at 0");
        twoHeights();
        x.line(0);
        // By 2 SLIDES LINE 0 has 0 at 0, 2 at 1, -2 at 2.
        due("one LINE, 1 of 2: above", x.paid(0, 2, 0), 1);
        due("one LINE, 1 of 2: below", x.paid(0, 2, 1), 2);
        x.line(100);
        // LINE 100 has 1 at 0, 1 at 1, -1 at 2; the greatest are 1, 2, -1.
        due("two LINES, 1 of 2: above", x.paid(0, 2, 0), 1);
        due("two LINES, 1 of 2: below", x.paid(0, 2, 1), 2);
        x.line(999);
        // LINE 999 has 0 each time; the greatest are 1, 2, 0.
        due("three LINES: below", x.paid(0, 2, 1), 2);
        rings(0, 300, 5000, 6000);
        rings(1, 300, 5000, 6000);
        // Now LINES 0 and 100 have 2 * 3 - 2 is 4, 2 * 3 - 1 is 5 at 0; 2 and 1 at 1; -2 and -1 at 2.
        due("fewer each time: above", x.paid(0, 2, 0), 0);
        due("fewer each time: below", x.paid(0, 2, 1), 1);
    }

    private static void paidRefused() {
        edge(20, "PAID by m SLIDES: part as chance(). BEYOND. NONE: no LINE is TRIED.");
        refused(BEYOND, "no COUNTINGS, no LINES", () -> x.paid(0, 1, 0));
        twoHeights();
        refused(NONE, "no LINES", () -> x.paid(0, 1, 0));
        refused(NONE, "no LINES", () -> x.paid(0, 40, 1));
        beyond("part ahead of NONE", v -> x.paid(0, 1, v), -1, 2, LEAST, MOST);
        beyond("m ahead of NONE", v -> x.paid(0, v, 0), 0, 41, LEAST, MOST);
        beyond("COUNTING ahead of NONE", v -> x.paid(v, 1, 0), -1, 1, LEAST, MOST);
        x.line(0);
        beyond("part", v -> x.paid(0, 1, v), -1, 2, LEAST, MOST);
        beyond("m", v -> x.paid(0, v, 0), 0, 41, LEAST, MOST);
        beyond("COUNTING", v -> x.paid(v, 1, 0), -1, 1, LEAST, MOST);
    }
}
