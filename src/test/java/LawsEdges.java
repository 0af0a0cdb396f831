/** Promises 28 to 35: laws, years, quieter houses, a star. */
final class LawsEdges extends Edge {
    static void all() {
        weights();
        years();
        odds();
        oddsOfNone();
        oddsRefused();
        saysNineByTen();
        saysOneByTwo();
        saysRefused();
        finds();
        findsRefused();
        quietOnes();
        bounds();
        boundsRefused();
        gone();
        goneRefused();
        goneSlowly();
    }

    private static void weights() {
        edge(28, "LAWS have a WEIGHT (0 to 99; 1 at first)");
        for (int law = 0; law <= 5; law++) {
            due("1 at first", x.weight(law, 0), 1);
            due("the least", x.weight(law, 99), 0);
            due("the most", x.weight(law, 1), 99);
        }
        edge(28, "WEIGHT of a LAW (0 to 5) becomes v: what it was. BEYOND.");
        x.weight(0, 99);
        beyond("LAW", v -> x.weight(v, 0), -1, 6, LEAST, MOST);
        beyond("v", v -> x.weight(0, v), -1, 100, LEAST, MOST);
        beyond("v of LAW 5", v -> x.weight(5, v), -1, 100);
        due("LAW 0 is as it was", x.weight(0, 99), 99);
        due("LAW 5 is as it was", x.weight(5, 1), 1);
    }

    private static void years() {
        edge(29, "YEARS 0 to 7 a number (0 to 99; 0 at first).");
        for (int year = 0; year <= 7; year++) {
            due("0 at first", x.year(year, 99), 0);
            due("the most", x.year(year, 0), 99);
            due("the least", x.year(year, 1), 0);
        }
        edge(29, "A YEAR's number becomes n: what it was. BEYOND.");
        x.year(7, 99);
        beyond("YEAR", v -> x.year(v, 0), -1, 8, LEAST, MOST);
        beyond("n", v -> x.year(7, v), -1, 100, LEAST, MOST);
        beyond("n of YEAR 0", v -> x.year(0, v), -1, 100);
        due("YEAR 7 is as it was", x.year(7, 0), 99);
        due("YEAR 0 is as it was", x.year(0, 0), 0);
    }

    private static void odds(String what, int law, int year, long above, long below) {
        due(what + ": above", x.all(law, year, 0), above);
        due(what + ": below", x.all(law, year, 1), below);
    }

    private static void odds() {
        edge(30, "ODDS of a LAW by YEARS 0 to y: its WEIGHT times what it gives for each of these, by all six LAWS' "
                + "together, in lowest terms");
        odds("six like ones, YEAR 0", 0, 0, 1, 6);
        odds("six like ones, YEAR 7", 5, 7, 1, 6);
        read("n", 3);
        x.year(0, 2);
        x.year(1, 3);
        x.year(6, 0);
        odds("YEAR 0 alone", 0, 0, 2, 7);
        odds("YEARS 0 and 1", 0, 1, 6, 11);
        odds("another LAW by YEARS 0 and 1", 1, 1, 1, 11);
        odds("YEAR 2 has number 0", 0, 2, 0, 1);
        odds("so the others are five", 5, 7, 1, 5);
        edge(30, "its WEIGHT times what it gives for each of these");
        for (int law = 0; law <= 5; law++) {
            read("9", 3 + law);
            x.weight(law, 99);
        }
        odds("the most of each", 0, 7, 1, 6);
        for (int law = 0; law <= 4; law++) {
            read("1", 3 + law);
            x.weight(law, 1);
        }
        odds("99 times 9, eight times", 5, 7, 4261625379L, 4261625384L);
        odds("another one by it", 0, 7, 1, 4261625384L);
        edge(30, "in lowest terms");
        x.weight(0, 4);
        x.weight(1, 0);
        x.weight(2, 0);
        x.weight(3, 0);
        x.weight(4, 0);
        x.weight(5, 6);
        odds("4 by 10", 0, 7, 2, 5);
        odds("6 by 10", 5, 7, 3, 5);
        x.weight(5, 0);
        odds("1 by 1", 0, 7, 1, 1);
        edge(30, "by YEARS 0 to y");
        read("y=7", 3);
        odds("y 0 gives 0", 0, 0, 0, 1);
        read("y+1", 3);
        odds("1 by 6", 0, 0, 1, 6);
        odds("8 times all below it", 0, 7, 40320 / 5, 40325 / 5);
    }

    private static void oddsOfNone() {
        edge(30, "(0 by 1, if all together are 0, too)");
        x.weight(0, 0);
        odds("WEIGHT 0", 0, 7, 0, 1);
        odds("the others", 1, 7, 1, 5);
        for (int law = 1; law <= 5; law++) {
            x.weight(law, 0);
        }
        odds("all together are 0, YEAR 0", 0, 0, 0, 1);
        odds("all together are 0, YEAR 7", 5, 7, 0, 1);
        edge(30, "0 by 1, if all together are 0");
        for (int law = 0; law <= 5; law++) {
            read("0", 3 + law);
            x.weight(law, 99);
        }
        odds("all give 0", 3, 3, 0, 1);
    }

    private static void oddsRefused() {
        edge(30, "ODDS of a LAW by YEARS up to one: part 0 above, 1 below the line. BEYOND.");
        beyond("LAW", v -> x.all(v, 0, 0), -1, 6, LEAST, MOST);
        beyond("YEAR", v -> x.all(0, v, 0), -1, 8, LEAST, MOST);
        beyond("part", v -> x.all(0, 0, v), -1, 2, LEAST, MOST);
        refused(BEYOND, "all of them", () -> x.all(6, 8, 2));
    }

    private static void weigh(int... weights) {
        for (int law = 0; law < weights.length; law++) {
            x.weight(law, weights[law]);
        }
    }

    private static void saysNineByTen() {
        edge(31, "SAY of a YEAR: 2 if some LAW has ODDS of 9 by 10 or more by it");
        weigh(90, 2, 2, 2, 2, 2);
        due("90 by 100", x.say(7), 2);
        weigh(89, 2, 2, 2, 2, 2);
        due("89 by 99", x.say(7), 1);
        weigh(2, 2, 2, 2, 2, 90);
        due("90 by 100, the last LAW", x.say(0), 2);
        weigh(2, 2, 2, 2, 2, 89);
        due("89 by 99, the last LAW", x.say(0), 1);
        weigh(9, 1, 0, 0, 0, 0);
        due("9 by 10", x.say(3), 2);
        weigh(1, 0, 0, 0, 0, 0);
        due("1 by 1", x.say(3), 2);
        weigh(99, 11, 0, 0, 0, 0);
        due("99 by 110", x.say(3), 2);
        weigh(99, 11, 1, 0, 0, 0);
        due("99 by 111", x.say(3), 1);
        for (int use = 3; use <= 8; use++) {
            read("9", use);
        }
        weigh(99, 11, 0, 0, 0, 0);
        due("great numbers, 9 by 10", x.say(7), 2);
        weigh(98, 11, 0, 0, 0, 0);
        due("great numbers, less", x.say(7), 1);
    }

    private static void saysOneByTwo() {
        edge(31, "else 1 if some has 1 by 2 or more, else 0.");
        weigh(50, 10, 10, 10, 10, 10);
        due("50 by 100", x.say(7), 1);
        weigh(49, 10, 10, 10, 10, 10);
        due("49 by 99", x.say(7), 0);
        weigh(10, 10, 10, 10, 10, 50);
        due("50 by 100, the last LAW", x.say(0), 1);
        weigh(10, 10, 10, 10, 10, 49);
        due("49 by 99, the last LAW", x.say(0), 0);
        weigh(0, 1, 1, 0, 0, 0);
        due("two with 1 by 2", x.say(0), 1);
        weigh(0, 1, 1, 1, 0, 0);
        due("three with 1 by 3", x.say(0), 0);
        weigh(0, 0, 0, 0, 0, 0);
        due("all together are 0", x.say(0), 0);
        due("all together are 0", x.say(7), 0);
    }

    private static void saysRefused() {
        edge(31, "SAY of a YEAR. BEYOND.");
        beyond("YEAR", v -> x.say(v), -1, 8, LEAST, MOST);
        read("n", 3);
        x.year(0, 9);
        x.year(7, 9);
        // LAW 0 gives 9 in YEAR 0, and 0 in YEAR 1, so it has no ODDS from there on.
        due("YEAR 0: 9 by 14", x.say(0), 1);
        due("YEAR 7: 0", x.say(7), 0);
        for (int year = 1; year <= 6; year++) {
            x.year(year, 1);
        }
        due("YEAR 6: 9 by 14", x.say(6), 1);
        due("YEAR 7: 81 by 86", x.say(7), 2);
    }

    private static void finds() {
        edge(32, "FIND of two LAWS: the least n (0 to 99), then the least y (0 to 7) for which they give unlike numbers.");
        read("0", 3);
        due("n 0, y 0", x.find(0, 1), 0);
        due("the other way round", x.find(1, 0), 0);
        read("n>98&y>6", 4);
        due("n 99, y 7", x.find(0, 1), 997);
        due("the other way round", x.find(1, 0), 997);
        read("n>98", 4);
        due("n 99, y 0", x.find(0, 1), 990);
        read("y>6", 4);
        due("n 0, y 7", x.find(0, 1), 7);
        read("n>4&y=6|n>5&y<6", 4);
        due("the least n, then the least y", x.find(0, 1), 56);
        read("0-n", 4);
        refused(NONE, "unlike only ahead of being held within 0 to 9", () -> x.find(0, 1));
        read("9+n", 3);
        read("9", 4);
        refused(NONE, "unlike only above 9", () -> x.find(0, 1));
    }

    private static void findsRefused() {
        edge(32, "FIND of two LAWS (perhaps one LAW): 10 * n and y. BEYOND. NONE.");
        refused(NONE, "one LAW without a TEXT", () -> x.find(5, 5));
        refused(NONE, "two without", () -> x.find(0, 5));
        read("n", 3);
        refused(NONE, "one LAW", () -> x.find(0, 0));
        read("1+(n>99)", 4);
        refused(NONE, "unlike from n 100 on", () -> x.find(1, 2));
        read("1+(y>7)", 4);
        refused(NONE, "unlike from y 8 on", () -> x.find(1, 2));
        read("1+(n<0)+(y<0)", 4);
        refused(NONE, "unlike below 0", () -> x.find(1, 2));
        due("unlike", x.find(0, 2), 0);
        beyond("one", v -> x.find(v, 0), -1, 6, LEAST, MOST);
        beyond("other", v -> x.find(0, v), -1, 6, LEAST, MOST);
        beyond("both, though they are one", v -> x.find(v, v), -1, 6);
    }

    private static void quietOnes() {
        edge(33, "QUIET ones (at most 8): a SENSE (1 to 999), for so many TENTHS T (1 to 9999).");
        due("the least", x.quiet(1, 1), 1);
        due("the most", x.quiet(999, 9999), 2);
        for (int i = 3; i <= 8; i++) {
            due("so many", x.quiet(1, 1), i);
        }
        refused(FULL, "a ninth", () -> x.quiet(1, 1));
        refused(FULL, "a ninth", () -> x.quiet(999, 9999));
        due("eight", x.count(5), 8);
        edge(33, "A QUIET one: how many there are. BEYOND. FULL.");
        beyond("SENSE", v -> x.quiet(v, 1), 0, 1000, -1, LEAST, MOST);
        beyond("TENTHS", v -> x.quiet(1, v), 0, 10000, -1, LEAST, MOST);
        due("none came", x.count(5), 0);
        for (int i = 0; i < 8; i++) {
            x.quiet(1, 1);
        }
        beyond("SENSE ahead of FULL", v -> x.quiet(v, 1), 0, 1000);
        beyond("TENTHS ahead of FULL", v -> x.quiet(1, v), 0, 10000);
    }

    private static void bounds() {
        edge(34, "BOUND of a height: the least 30000 by T of those whose SENSE isn't above it.");
        x.quiet(500, 1);
        due("T 1", x.bound(500), 30000);
        refused(NONE, "its SENSE is above by 1", () -> x.bound(499));
        x.quiet(600, 9999);
        due("T 9999 is cut", x.bound(600), 3);
        due("above the second by 1", x.bound(599), 30000);
        due("the greatest height", x.bound(999), 3);
        x.quiet(1, 7);
        due("the least height, cut", x.bound(1), 4285);
        due("the least of two", x.bound(599), 4285);
        x.quiet(999, 9998);
        due("the least of four", x.bound(999), 3);
    }

    private static void boundsRefused() {
        edge(34, "BOUND of a height (1 to 999). BEYOND. NONE: no QUIET one (whose SENSE isn't above it).");
        refused(NONE, "no QUIET one at all", () -> x.bound(1));
        refused(NONE, "no QUIET one at all", () -> x.bound(999));
        beyond("height ahead of NONE", v -> x.bound(v), 0, 1000, -1, LEAST, MOST);
        x.quiet(999, 10);
        refused(NONE, "SENSE 999, height 998", () -> x.bound(998));
        due("SENSE 999, height 999", x.bound(999), 3000);
        x.quiet(1, 100);
        due("SENSE 1, height 1", x.bound(1), 300);
        beyond("height", v -> x.bound(v), 0, 1000, -1, LEAST, MOST);
    }

    private static void gone() {
        edge(35, "a star of m (1 to 99999) loses in each YEAR n times, one time behind the other, l thousandths (1 to 999) "
                + "of what it has, rounded up: how many YEARS till it has less than half of m.");
        due("m 1: all of it", x.gone(1, 1, 1), 1);
        due("m 2: 1 is just half", x.gone(2, 1, 1), 2);
        due("m 3: 2, 1", x.gone(3, 1, 1), 2);
        due("m 5: 4, 3, 2", x.gone(5, 1, 1), 3);
        due("m 1000, just half, 250", x.gone(1000, 500, 1), 2);
        due("m 1001: 501 are lost", x.gone(1001, 500, 1), 1);
        due("m 1000, 501 thousandths", x.gone(1000, 501, 1), 1);
        due("m 1000, 499 thousandths: 501, 251", x.gone(1000, 499, 1), 2);
        due("999 thousandths", x.gone(99999, 999, 1), 1);
        due("twice: 500, 250", x.gone(1000, 500, 2), 1);
        // One time behind the other: 900, 810, 729; 656, 590, 531; 477. Not 300 at once.
        due("thrice a tenth", x.gone(1000, 100, 3), 3);
        due("m 99999, slowest", x.gone(99999, 1, 1), 688);
        due("m 99999, nine times", x.gone(99999, 1, 9), 77);
        due("m 1, all at most", x.gone(1, 999, 9), 1);
        // 18 - 9 is 9, just half; the tenth time comes in the second YEAR.
        due("m 18, nine times: just half", x.gone(18, 1, 9), 2);
        due("m 17, nine times", x.gone(17, 1, 9), 1);
    }

    private static void goneRefused() {
        edge(35, "GONE. BEYOND: m, l, n (1 to 9).");
        beyond("m", v -> x.gone(v, 1, 1), 0, 100000, -1, LEAST, MOST);
        beyond("l", v -> x.gone(1, v, 1), 0, 1000, -1, LEAST, MOST);
        beyond("n", v -> x.gone(1, 1, v), 0, 10, -1, LEAST, MOST);
        refused(BEYOND, "all of them", () -> x.gone(0, 0, 0));
    }

    /** No star takes so long as NONE asks for: what it loses is rounded up, so a thousandth halves it sooner. */
    private static void goneSlowly() {
        edge(35, "NONE: not in 999 YEARS.");
        int longest = 0;
        for (int i = 0; i < 200; i++) {
            x = new BarsTogether();
            for (int j = 0; j < 500; j++) {
                longest = Math.max(longest, x.gone(Math.min(99999, 500 * i + j + 1), 1, 1));
            }
            due("none is told", x.told(2), 0);
        }
        due("all are gone in 999 YEARS", longest <= 999 ? 1 : 0, 1);
        due("and the slowest takes many", longest >= 688 ? 1 : 0, 1);
    }
}
