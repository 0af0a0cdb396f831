/** Promises 1 to 8: a new object, clocks, bars, rings, tapes, what counts, rows. */
final class BarsEdges extends Edge {
    static void all() {
        newObject();
        errors();
        clocks();
        bars();
        rings();
        shown();
        gaps();
        ringOf();
        tapes();
        counts();
        rowsOfPairs();
        rowsThatEnd();
    }

    private static void newObject() {
        edge(1, "All as at first; no BARS, RINGS, COUNTINGS.");
        for (int what = 0; what <= 8; what++) {
            due("count(" + what + ")", x.count(what), 0);
        }
        for (int k = 1; k <= 5; k++) {
            due("told(" + k + ")", x.told(k), 0);
        }
        refused(BEYOND, "no BAR 0", () -> x.onTape(0, 0));
        refused(BEYOND, "no RING 0", () -> x.ringOf(0, 0));
        refused(BEYOND, "no COUNTING 0", () -> x.gives(0));
        refused(BEYOND, "no two BARS", () -> x.meets(1, 0, 0, 0));
        refused(NONE, "no QUIET one", () -> x.bound(999));
        refused(NONE, "no IMAGE", () -> x.restore());
        due("no image() was ahead", x.image(), 1);
        edge(1, "each with a CLOCK (-999 to 999; 0 at first)");
        for (int house = 0; house <= 2; house++) {
            due("CLOCK of " + house, x.clock(house, 0), 0);
        }
        edge(1, "LAWS have a WEIGHT (0 to 99; 1 at first)");
        for (int law = 0; law <= 5; law++) {
            due("WEIGHT of " + law, x.weight(law, 1), 1);
        }
        edge(1, "YEARS 0 to 7 a number (0 to 99; 0 at first)");
        for (int year = 0; year <= 7; year++) {
            due("number of " + year, x.year(year, 0), 0);
        }
        edge(1, "z is told (1 at first)");
        due("z", x.count(9), 1);
        edge(1, "or missing (as at first)");
        for (int sheet = 0; sheet <= 3; sheet++) {
            int missing = sheet;
            refused(NONE, "SHEET " + sheet, () -> x.put(missing, 0, 0));
        }
    }

    private static void errors() {
        edge(1, "ERRORS are answers below -1000000: LOW is -1000000; LOW - 1 BEYOND, LOW - 2 NONE, LOW - 3 STATE, "
                + "LOW - 4 FULL, LOW - 5 KIND (in longs, too).");
        due("BEYOND", x.bar(3), -1000001);
        due("NONE", x.restore(), -1000002);
        due("STATE", x.sheet(0, 8, -1), -1000003);
        x.feed(0, 8);
        for (int i = 0; i < 6; i++) {
            x.feed(0, 7);
        }
        due("FULL", x.feed(0, 1), -1000004);
        bars(0, 0);
        x.counting(0, 1, 0, 0, 1);
        due("KIND", x.as(0, 1), -1000005);
        due("a long", x.all(6, 0, 0), -1000001L);
    }

    private static void clocks() {
        edge(2, "HOUSES 0 to 2, each with a CLOCK (-999 to 999; 0 at first).");
        for (int house = 0; house <= 2; house++) {
            due("0 at first", x.clock(house, -999), 0);
            due("the least", x.clock(house, 999), -999);
            due("the most", x.clock(house, 0), 999);
        }
        edge(2, "CLOCK of a HOUSE becomes v: what it was. BEYOND.");
        x.clock(0, 999);
        x.clock(2, -999);
        beyond("house", v -> x.clock(v, 0), -1, 3, LEAST, MOST);
        beyond("v in HOUSE 0", v -> x.clock(0, v), -1000, 1000, LEAST, MOST);
        beyond("v in HOUSE 2", v -> x.clock(2, v), -1000, 1000);
        refused(BEYOND, "both", () -> x.clock(3, 1000));
        due("HOUSE 0 is as it was", x.clock(0, 999), 999);
        due("HOUSE 1 is as it was", x.clock(1, 0), 0);
        due("HOUSE 2 is as it was", x.clock(2, 0), -999);
        due("becomes what it was", x.clock(0, 0), 999);
    }

    private static void bars() {
        edge(3, "BARS 0, 1, .. (at most 6), each of a HOUSE.");
        for (int i = 0; i <= 5; i++) {
            due("BAR " + i, x.bar(i % 3), i);
        }
        refusedEach(FULL, "a seventh of HOUSE", v -> x.bar(v), 0, 1, 2);
        due("six", x.count(0), 6);
        edge(3, "A BAR: its number. BEYOND. FULL.");
        beyond("house", v -> x.bar(v), -1, 3, LEAST, MOST);
        due("none came", x.count(0), 0);
        due("HOUSE 0", x.bar(0), 0);
        due("HOUSE 2", x.bar(2), 1);
        x.image();
        bars(0, 0, 0, 0);
        beyond("BEYOND ahead of FULL, house", v -> x.bar(v), -1, 3, LEAST, MOST);
        refused(FULL, "a seventh", () -> x.bar(0));
        x.restore();
        due("there is room again", x.bar(1), 2);
    }

    private static void rings() {
        edge(4, "TENTHS are 0 to 9999.");
        bars(0);
        due("least", x.ring(0, 0, 1), 0);
        due("most", x.ring(0, 9999, 1), 1);
        beyond("TENTH", v -> x.ring(0, v, 1), -1, 10000, LEAST, MOST);
        due("kept, least", x.ringOf(0, 1), 0);
        due("kept, most", x.ringOf(1, 1), 9999);
        edge(4, "each of a BAR, at a TENTH, with a height (1 to 999)");
        bars(0, 0);
        due("least", x.ring(0, 0, 1), 0);
        due("most, last BAR", x.ring(1, 0, 999), 1);
        beyond("height", v -> x.ring(0, 0, v), 0, 1000, -1, LEAST, MOST);
        beyond("BAR", v -> x.ring(v, 0, 1), -1, 2, LEAST, MOST);
        due("two", x.count(1), 2);
        edge(4, "A RING: its number. BEYOND. FULL.");
        refused(BEYOND, "without a BAR", () -> x.ring(0, 0, 1));
        bars(0);
        for (int i = 0; i <= 95; i++) {
            due("RING " + i, x.ring(0, i, 1), i);
        }
        refused(FULL, "a 97th", () -> x.ring(0, 0, 1));
        refused(BEYOND, "BAR ahead of FULL", () -> x.ring(1, 0, 1));
        refused(BEYOND, "TENTH ahead of FULL", () -> x.ring(0, 10000, 1));
        refused(BEYOND, "height ahead of FULL", () -> x.ring(0, 0, 0));
        due("96", x.count(1), 96);
        due("the last one", x.ringOf(95, 1), 95);
        edge(4, "RINGS 0, 1, .. (at most 96)");
        bars(0, 1);
        for (int i = 0; i < 4; i++) {
            x.made(0, 20);
        }
        x.made(1, 15);
        due("the 96th, of another BAR", x.ring(1, 0, 1), 95);
        refused(FULL, "a 97th, though each BAR has fewer", () -> x.ring(1, 0, 1));
    }

    private static void shown() {
        edge(5, "SHOWN at its TENTH and CLOCK of its HOUSE together (as that is now).");
        bars(0, 2);
        rings(0, 1, 0, 9999);
        rings(1, 1, 0);
        due("CLOCK 0", x.ringOf(1, 3), 9999);
        x.clock(0, -999);
        due("the earliest there is", x.ringOf(0, 3), -999);
        due("one that was made ahead of it", x.ringOf(1, 3), 9000);
        x.clock(0, 999);
        due("the latest there is", x.ringOf(1, 3), 10998);
        due("of another HOUSE", x.ringOf(2, 3), 0);
        due("its TENTH stays", x.ringOf(1, 1), 9999);
    }

    private static void gaps() {
        edge(5, "how much later it is SHOWN than the one ahead of it on THE TAPE, 999 at most; 999 of the first one.");
        bars(0, 0);
        rings(0, 1, 0, 998, 1997, 2997, 2998, 2998);
        rings(1, 1, 2500);
        due("the first one", x.ringOf(0, 4), 999);
        due("998", x.ringOf(1, 4), 998);
        due("999", x.ringOf(2, 4), 999);
        due("1000 is 999", x.ringOf(3, 4), 999);
        due("1", x.ringOf(4, 4), 1);
        due("0", x.ringOf(5, 4), 0);
        due("another BAR's only one", x.ringOf(6, 4), 999);
        x.clock(0, -999);
        due("the first one, SHOWN below 0", x.ringOf(0, 4), 999);
        due("across 0", x.ringOf(1, 4), 998);
        edge(5, "999 of the first one");
        bars(0);
        rings(0, 1, 7, 7);
        due("the first of like ones", x.ringOf(0, 4), 999);
        due("the second of like ones", x.ringOf(1, 4), 0);
        rings(0, 1, 6);
        due("one came ahead of it", x.ringOf(0, 4), 1);
        due("that is the first now", x.ringOf(2, 4), 999);
    }

    private static void ringOf() {
        edge(5, "Of a RING: 0 BAR, 1 TENTH, 2 height, 3 when it is SHOWN, 4 GAP. BEYOND.");
        bars(0, 1);
        x.clock(1, 5);
        x.ring(1, 30, 40);
        due("what 0", x.ringOf(0, 0), 1);
        due("what 1", x.ringOf(0, 1), 30);
        due("what 2", x.ringOf(0, 2), 40);
        due("what 3", x.ringOf(0, 3), 35);
        due("what 4", x.ringOf(0, 4), 999);
        beyond("what", v -> x.ringOf(0, v), -1, 5, LEAST, MOST);
        beyond("RING", v -> x.ringOf(v, 0), -1, 1, LEAST, MOST);
        beyond("RING, what 4", v -> x.ringOf(v, 4), -1, 1);
    }

    private static void tapes() {
        edge(6, "its RINGS by when they are SHOWN, of like ones by numbers.");
        bars(0, 1);
        rings(0, 1, 50, 40, 50, 40, 60);
        rings(1, 1, 45);
        int[] tape = {1, 3, 0, 2, 4};
        for (int i = 0; i < tape.length; i++) {
            due("place " + i, x.onTape(0, i), tape[i]);
        }
        edge(6, "The i-th RING (from 0) of THE TAPE of a BAR. BEYOND: BAR, i below 0. NONE.");
        refused(BEYOND, "no BARS", () -> x.onTape(0, 0));
        bars(0, 0);
        refusedEach(NONE, "an empty TAPE, place", v -> x.onTape(1, v), 0, 1, MOST);
        rings(0, 1, 5, 4);
        due("the first", x.onTape(0, 0), 1);
        due("the last", x.onTape(0, 1), 0);
        refusedEach(NONE, "behind the last", v -> x.onTape(0, v), 2, 3, MOST);
        beyond("i", v -> x.onTape(0, v), -1, LEAST);
        beyond("i on an empty TAPE", v -> x.onTape(1, v), -1, LEAST);
        beyond("BAR", v -> x.onTape(v, 0), -1, 2, LEAST, MOST);
        beyond("BAR ahead of NONE", v -> x.onTape(v, MOST), -1, 2);
        edge(6, "THE TAPE of a BAR");
        bars(0);
        for (int i = 0; i < 96; i++) {
            x.ring(0, 95 - i, 1);
        }
        due("first of 96", x.onTape(0, 0), 95);
        due("last of 96", x.onTape(0, 95), 0);
        refused(NONE, "behind 96", () -> x.onTape(0, 96));
    }

    private static void counts() {
        edge(7, "A RING COUNTS by a LINE l (0 to 999), if its height is above l, and the WAY of its HOUSE gives not 0.");
        bars(0, 1);
        x.ring(0, 0, 1);
        x.ring(0, 0, 999);
        x.ring(1, 0, 500);
        due("height 1, LINE 0", x.counts(0, 0), 1);
        due("height 1, LINE 1", x.counts(0, 1), 0);
        due("height 999, LINE 998", x.counts(1, 998), 1);
        due("height 999, LINE 999", x.counts(1, 999), 0);
        due("height 500, LINE 499", x.counts(2, 499), 1);
        due("height 500, LINE 500", x.counts(2, 500), 0);
        read("h-999", 0);
        due("WAY gives 0", x.counts(1, 0), 0);
        due("WAY gives less than 0", x.counts(0, 0), 1);
        due("WAY gives not 0, not above LINE", x.counts(0, 1), 0);
        due("of another HOUSE", x.counts(2, 0), 1);
        edge(7, "1 if a RING COUNTS by a LINE, else 0. BEYOND.");
        refused(BEYOND, "no RINGS", () -> x.counts(0, 0));
        bars(0);
        x.ring(0, 0, 1);
        beyond("LINE", v -> x.counts(0, v), -1, 1000, LEAST, MOST);
        beyond("RING", v -> x.counts(v, 0), -1, 1, LEAST, MOST);
    }

    private static void pairs(int sheet, int... numbers) {
        for (int i = 0; i < numbers.length; i++) {
            x.put(sheet, i, numbers[i]);
        }
    }

    private static void rowsOfPairs() {
        edge(8, "RINGS of a BAR from a SHEET: pairs of TENTH and height, from number 0 on, up to the first that isn't "
                + "as told, or isn't whole, or has no room: how many came.");
        bars(0, 1);
        x.sheet(0, 32, 8);
        pairs(0, 0, 1, 9999, 999, 5, 6, 7, 8);
        due("least, most, all", x.rows(1, 0), 4);
        due("BAR", x.ringOf(3, 0), 1);
        due("TENTH", x.ringOf(1, 1), 9999);
        due("height", x.ringOf(1, 2), 999);
        int[] tenths = {-1, 10000, LEAST, MOST};
        for (int tenth : tenths) {
            x.put(0, 4, tenth);
            due("TENTH " + tenth + "; what stands behind it comes not", x.rows(0, 0), 2);
        }
        x.put(0, 4, 5);
        int[] heights = {0, 1000, -1, LEAST, MOST};
        for (int height : heights) {
            x.put(0, 3, height);
            due("height " + height, x.rows(0, 0), 1);
        }
        x.put(0, 1, 0);
        due("the first isn't as told", x.rows(0, 0), 0);
        due("told() tells nothing", x.told(1) + x.told(2) + x.told(3) + x.told(4) + x.told(5), 0);
        edge(8, "or isn't whole");
        bars(0);
        int[] sizes = {0, 1, 2, 3, 39, 40};
        for (int size : sizes) {
            x.sheet(3, 8, size);
            for (int i = 0; i < size; i++) {
                x.put(3, i, 1 + i);
            }
            due(size + " numbers", x.rows(0, 3), size / 2);
        }
    }

    private static void rowsThatEnd() {
        edge(8, "or has no room");
        bars(0);
        for (int i = 0; i < 4; i++) {
            x.made(0, 20);
        }
        x.made(0, 14);
        x.sheet(0, 8, 6);
        pairs(0, 1, 2, 3, 4, 5, 6);
        x.image();
        due("room for two of three", x.rows(0, 0), 2);
        due("96", x.count(1), 96);
        due("the last", x.ringOf(95, 1), 3);
        due("no room at all", x.rows(0, 0), 0);
        due("that is no ERROR", x.told(4), 0);
        x.restore();
        x.ring(0, 1, 1);
        due("room for one", x.rows(0, 0), 1);
        edge(8, "BEYOND: BAR, SHEET. NONE: it is missing.");
        refused(BEYOND, "no BARS, a missing SHEET", () -> x.rows(0, 0));
        bars(0);
        refusedEach(NONE, "missing SHEET", v -> x.rows(0, v), 0, 1, 2, 3);
        beyond("BAR ahead of NONE", v -> x.rows(v, 0), -1, 1, LEAST, MOST);
        beyond("SHEET", v -> x.rows(0, v), -1, 4, LEAST, MOST);
        x.sheet(0, 8, 2);
        x.put(0, 1, 1);
        beyond("BAR", v -> x.rows(v, 0), -1, 1);
        due("none came", x.count(1), 0);
        x.sheet(0, 0, 0);
        refused(NONE, "missing again", () -> x.rows(0, 0));
    }
}
