/** Promises 41 to 49: sheets, images, numbers that wait, counts, what is told. */
final class SheetsEdges extends Edge {
    static void all() {
        sheetSizes();
        sheetOrder();
        sheetsBehindErrors();
        putBits();
        putRefused();
        moves();
        movesWithin();
        moveOrder();
        moveEnds();
        images();
        imageKeeps();
        restores();
        tells();
        checks();
        checksOfMany();
        checksRefused();
        counts();
        tolds();
        manyCalls();
    }

    private static void sheetSizes() {
        edge(41, "SHEETS 0 .. 3 are rows of 8, 16, 32 bits (with their sign), at most 40 numbers, or missing (as at first).");
        for (int sheet = 0; sheet <= 3; sheet++) {
            int one = sheet;
            for (int bits = 8; bits <= 32; bits *= 2) {
                due("n 40", x.sheet(sheet, bits, 40), 1);
                due("its last", x.put(sheet, 39, 1), 1);
                due("n 0", x.sheet(sheet, bits, 0), 1);
                refused(BEYOND, "it has none", () -> x.put(one, 0, 1));
            }
            due("missing", x.sheet(sheet, 0, 0), 1);
            refused(NONE, "it is missing", () -> x.put(one, 0, 1));
        }
        edge(41, "A SHEET has n numbers, all 0, of so many bits (8, 16, 32; 0: it is missing, n doesn't matter): 1.");
        bars(0);
        x.sheet(0, 16, 4);
        for (int i = 0; i < 4; i++) {
            x.put(0, i, 5);
        }
        x.sheet(0, 16, 4);
        due("all 0 again", x.rows(0, 0), 0);
        x.put(0, 1, 7);
        due("TENTH is 0, its height was put", x.rows(0, 0), 1);
        due("TENTH", x.ringOf(0, 1), 0);
        int[] any = {0, -1, 40, 41, LEAST, MOST};
        for (int n : any) {
            due("missing, n " + n, x.sheet(0, 0, n), 1);
        }
        due("missing, though it was", x.sheet(1, 0, -1), 1);
    }

    private static void sheetOrder() {
        edge(41, "BEYOND. STATE: n is below 0 (ahead of BEYOND of n).");
        refusedEach(STATE, "n", v -> x.sheet(0, 8, v), -1, -40, LEAST);
        refusedEach(STATE, "bits, n below 0", v -> x.sheet(3, v, -1), 8, 16, 32);
        beyond("n", v -> x.sheet(0, 8, v), 41, MOST);
        beyond("SHEET", v -> x.sheet(v, 8, 1), -1, 4, LEAST, MOST);
        beyond("SHEET, bits 0", v -> x.sheet(v, 0, 1), -1, 4);
        beyond("SHEET ahead of STATE", v -> x.sheet(v, 8, -1), -1, 4);
        beyond("bits", v -> x.sheet(0, v, 1), -1, 1, 7, 9, 15, 17, 24, 31, 33, 64, -8, LEAST, MOST);
        beyond("bits ahead of STATE", v -> x.sheet(0, v, -1), -1, 7, 64);
    }

    private static void sheetsBehindErrors() {
        edge(41, "STATE: n is below 0");
        bars(0);
        x.sheet(0, 8, 2);
        x.put(0, 0, 3);
        x.put(0, 1, 4);
        refused(STATE, "n -1", () -> x.sheet(0, 16, -1));
        refused(BEYOND, "n 41", () -> x.sheet(0, 16, 41));
        refused(BEYOND, "bits 7", () -> x.sheet(0, 7, 2));
        due("the SHEET is as it was", x.rows(0, 0), 1);
        due("its TENTH", x.ringOf(0, 1), 3);
        due("its height", x.ringOf(0, 2), 4);
        x.put(0, 0, 256 + 9);
        x.rows(0, 0);
        due("its bits", x.ringOf(1, 1), 9);
    }

    /** The TENTH that number 0 of SHEET 0 makes, of which v was put; -1 if it makes none. */
    private static int tenthOf(int bits, int v) {
        x.sheet(0, bits, 2);
        x.put(0, 0, v);
        x.put(0, 1, 1);
        return x.rows(0, 0) == 0 ? -1 : x.ringOf(x.count(1) - 1, 1);
    }

    private static void putBits() {
        edge(42, "Number i of a SHEET becomes v (its lowest bits): 1.");
        bars(0);
        due("8: 127", tenthOf(8, 127), 127);
        due("8: 128 is -128", tenthOf(8, 128), -1);
        due("8: 255 is -1", tenthOf(8, 255), -1);
        due("8: 256 is 0", tenthOf(8, 256), 0);
        due("8: 256 and 127", tenthOf(8, 256 + 127), 127);
        due("8: -129 is 127", tenthOf(8, -129), 127);
        due("8: -256 is 0", tenthOf(8, -256), 0);
        due("8: -1", tenthOf(8, -1), -1);
        due("8: the least is 0", tenthOf(8, LEAST), 0);
        due("8: the most is -1", tenthOf(8, MOST), -1);
        due("16: 9999", tenthOf(16, 9999), 9999);
        due("16: 32768 is -32768", tenthOf(16, 32768), -1);
        due("16: 65535 is -1", tenthOf(16, 65535), -1);
        due("16: 65536 is 0", tenthOf(16, 65536), 0);
        due("16: 65536 and 9999", tenthOf(16, 65536 + 9999), 9999);
        due("16: -65536 and 1", tenthOf(16, -65535), 1);
        due("16: 256", tenthOf(16, 256), 256);
        due("16: the least is 0", tenthOf(16, LEAST), 0);
        due("32: 9999", tenthOf(32, 9999), 9999);
        due("32: 65536 stays", tenthOf(32, 65536), -1);
        due("32: the least stays", tenthOf(32, LEAST), -1);
        due("32: the most stays", tenthOf(32, MOST), -1);
    }

    private static void putRefused() {
        edge(42, "BEYOND: no such SHEET. NONE: it is missing. BEYOND: no such number.");
        beyond("SHEET", v -> x.put(v, 0, 1), -1, 4, LEAST, MOST);
        refusedEach(NONE, "missing, number", v -> x.put(3, v, 1), 0, -1, 40, LEAST, MOST);
        x.sheet(3, 8, 40);
        beyond("number of 40", v -> x.put(3, v, 1), -1, 40, LEAST, MOST);
        due("the last", x.put(3, 39, LEAST), 1);
        x.sheet(3, 8, 1);
        due("the only one", x.put(3, 0, MOST), 1);
        beyond("number of 1", v -> x.put(3, v, 1), -1, 1, 39);
        x.sheet(3, 32, 0);
        beyond("number of none", v -> x.put(3, v, 1), -1, 0);
        x.sheet(3, 0, 0);
        refused(NONE, "missing again", () -> x.put(3, 0, 1));
    }

    private static void pairs(int sheet, int bits, int... numbers) {
        x.sheet(sheet, bits, numbers.length);
        for (int i = 0; i < numbers.length; i++) {
            x.put(sheet, i, numbers[i]);
        }
    }

    /** What a SHEET of pairs holds, told by the RINGS of BAR 0 that it makes. */
    private static void holds(String what, int sheet, int... numbers) {
        int before = x.count(1);
        due(what + ": pairs", x.rows(0, sheet), numbers.length / 2);
        for (int i = 0; i < numbers.length; i++) {
            due(what + ": number " + i, x.ringOf(before + i / 2, 1 + i % 2), numbers[i]);
        }
    }

    private static void moves() {
        edge(43, "n numbers of a SHEET, from number i on, come to another one (or the same), from its number j on, as they "
                + "all were: n.");
        bars(0);
        pairs(0, 16, 10, 20, 30, 40, 50, 60);
        pairs(1, 16, 1, 2, 3, 4);
        due("none", x.move(0, 0, 1, 0, 0), 0);
        holds("none came", 1, 1, 2, 3, 4);
        due("one, the last to the last", x.move(0, 5, 1, 3, 1), 1);
        holds("one came", 1, 1, 2, 3, 60);
        due("all there is room for", x.move(0, 2, 1, 0, 4), 4);
        holds("four came", 1, 30, 40, 50, 60);
        holds("they stay where they were", 0, 10, 20, 30, 40, 50, 60);
        due("from the first on", x.move(1, 0, 0, 0, 4), 4);
        holds("to the first place", 0, 30, 40, 50, 60, 50, 60);
        edge(43, "come to another one (or the same)");
        bars(0);
        int[] forty = new int[40];
        for (int i = 0; i < 40; i++) {
            forty[i] = i + 1;
        }
        pairs(2, 8, forty);
        x.sheet(3, 8, 40);
        due("all 40", x.move(2, 0, 3, 0, 40), 40);
        holds("40", 3, forty);
    }

    private static void movesWithin() {
        edge(43, "as they all were");
        bars(0);
        pairs(0, 16, 1, 2, 3, 4, 5, 6);
        due("one place on", x.move(0, 0, 0, 1, 5), 5);
        holds("one place on", 0, 1, 1, 2, 3, 4, 5);
        pairs(0, 16, 1, 2, 3, 4, 5, 6);
        due("one place back", x.move(0, 1, 0, 0, 5), 5);
        holds("one place back", 0, 2, 3, 4, 5, 6, 6);
        pairs(0, 8, 1, 2, 3, 4, 5, 6);
        due("all to where they are", x.move(0, 0, 0, 0, 6), 6);
        holds("all to where they are", 0, 1, 2, 3, 4, 5, 6);
        pairs(0, 32, 1, 2, 3, 4, 5, 6);
        due("apart", x.move(0, 0, 0, 4, 2), 2);
        holds("apart", 0, 1, 2, 3, 4, 1, 2);
    }

    private static void moveOrder() {
        edge(43, "BEYOND: no such SHEET. NONE: one is missing. KIND: they are of unlike bits.");
        beyond("SHEET, the other missing", v -> x.move(v, 0, 0, 0, 0), -1, 4, LEAST, MOST);
        beyond("other, the SHEET missing", v -> x.move(0, 0, v, 0, 0), -1, 4, LEAST, MOST);
        refused(NONE, "both are missing", () -> x.move(0, 0, 1, 0, 0));
        refused(NONE, "one SHEET, missing", () -> x.move(2, 0, 2, 0, -1));
        x.sheet(0, 8, 2);
        refused(NONE, "the other is missing, n below 0", () -> x.move(0, 0, 1, 0, -1));
        refused(NONE, "the first is missing, n below 0", () -> x.move(1, 0, 0, 0, -1));
        x.sheet(1, 16, 2);
        x.sheet(2, 32, 2);
        refused(KIND, "8 and 16", () -> x.move(0, 0, 1, 0, 1));
        refused(KIND, "16 and 8", () -> x.move(1, 0, 0, 0, 1));
        refused(KIND, "16 and 32", () -> x.move(1, 0, 2, 0, 1));
        refused(KIND, "8 and 32, n 0", () -> x.move(0, 0, 2, 0, 0));
        refused(KIND, "ahead of BEYOND of n", () -> x.move(0, 0, 2, 0, -1));
        refused(KIND, "ahead of BEYOND of i", () -> x.move(0, 3, 2, 0, 1));
        refused(KIND, "ahead of BEYOND of j", () -> x.move(0, 0, 2, -1, 1));
        beyond("SHEET ahead of NONE", v -> x.move(v, 0, 3, 0, 0), -1, 4);
        beyond("other ahead of NONE", v -> x.move(3, 0, v, 0, 0), -1, 4);
        refused(NONE, "ahead of KIND and of BEYOND of n", () -> x.move(0, -1, 3, -1, -1));
    }

    private static void moveEnds() {
        edge(43, "BEYOND: n, i, or j is below 0, or they don't stand there (with n 0, too).");
        bars(0);
        pairs(0, 16, 10, 20, 30, 40);
        pairs(1, 16, 1, 2);
        beyond("n", v -> x.move(0, 0, 1, 0, v), -1, 3, LEAST, MOST);
        beyond("i", v -> x.move(0, v, 1, 0, 1), -1, 4, LEAST, MOST);
        beyond("j", v -> x.move(0, 0, 1, v, 1), -1, 2, LEAST, MOST);
        refused(BEYOND, "i 3, n 2", () -> x.move(0, 3, 1, 0, 2));
        refused(BEYOND, "j 1, n 2", () -> x.move(0, 0, 1, 1, 2));
        refused(BEYOND, "i and n are the most there is", () -> x.move(0, MOST, 1, 0, MOST));
        beyond("n 0, i", v -> x.move(0, v, 1, 0, 0), -1, 5, LEAST, MOST);
        beyond("n 0, j", v -> x.move(0, 0, 1, v, 0), -1, 3, LEAST, MOST);
        holds("nothing came", 1, 1, 2);
        due("n 0 at either end", x.move(0, 4, 1, 2, 0), 0);
        due("n 0 at the first", x.move(0, 0, 1, 0, 0), 0);
        due("n 2", x.move(0, 2, 1, 0, 2), 2);
        holds("they came", 1, 30, 40);
        edge(43, "or they don't stand there (with n 0, too)");
        x.sheet(0, 8, 0);
        due("an empty SHEET, n 0", x.move(0, 0, 0, 0, 0), 0);
        refused(BEYOND, "n 1", () -> x.move(0, 0, 0, 0, 1));
        refused(BEYOND, "n 0, i 1", () -> x.move(0, 1, 0, 0, 0));
        refused(BEYOND, "n 0, j 1", () -> x.move(0, 0, 0, 1, 0));
    }

    private static void images() {
        edge(44, "is kept as an IMAGE, in place of one ahead: how many image() there were.");
        due("the first, of a new object", x.image(), 1);
        bars(0);
        rings(0, 1, 5);
        due("the second", x.image(), 2);
        due("one RING", x.restore(), 1);
        due("a BAR", x.count(0), 1);
        x.ring(0, 6, 1);
        due("restore() counts not", x.image(), 3);
        x.ring(0, 7, 1);
        due("in place of the ones ahead", x.restore(), 2);
        edge(44, "All (but SHEETS, THE TRACE, what told() tells, and how often this was done)");
        bars(0, 1);
        x.counting(7, 1, 0, 0, 1);
        x.image();
        x.image();
        pairs(0, 8, 3, 4);
        x.sheet(1, 16, 1);
        x.voice(0, 3, 0);
        x.bar(3);
        x.restore();
        due("SHEETS aren't kept", x.rows(0, 0), 1);
        due("what was put", x.ringOf(0, 1), 3);
        due("SHEETS aren't kept", x.put(1, 0, 0), 1);
        due("THE TRACE isn't kept", x.count(8), 9);
        due("THE TRACE isn't kept", x.trace(0), 81);
        due("what told() tells isn't kept", x.told(1), 1);
        due("how often isn't kept", x.image(), 3);
        x.sheet(0, 0, 0);
        x.restore();
        refused(NONE, "a SHEET stays missing", () -> x.put(0, 0, 0));
    }

    private static void imageKeeps() {
        edge(44, "All (but SHEETS");
        x.image();
        x.bar(0);
        x.bar(1);
        x.made(0, 3);
        x.clock(2, 7);
        feed("9");
        x.text(3);
        feed("0");
        x.text(0);
        x.counting(0, 1, 0, 0, 1);
        x.line(1);
        x.let(1);
        x.weight(5, 2);
        x.year(7, 2);
        x.quiet(1, 1);
        x.tell(1);
        feed("1");
        due("the IMAGE of a new object has no RINGS", x.restore(), 0);
        int[] first = {0, 0, 0, 0, 0, 0, 0, 0, 0, 1};
        for (int what = 0; what <= 9; what++) {
            due("count(" + what + ")", x.count(what), first[what]);
        }
        due("CLOCK", x.clock(2, 0), 0);
        due("LAW", x.law(0, 0, 0), 1);
        due("WEIGHT", x.weight(5, 1), 1);
        due("YEAR", x.year(7, 0), 0);
        refused(NONE, "QUIET ones", () -> x.bound(999));
        bars(0);
        rings(0, 1, 5);
        due("WAY", x.counts(0, 0), 1);
        edge(44, "All");
        bars(0, 1, 0, 1, 0, 1);
        for (int i = 0; i < 4; i++) {
            x.made(i, 20);
        }
        x.made(5, 16);
        feed("12345678".repeat(6) + "90");
        for (int i = 0; i < 20; i++) {
            x.counting(i % 8, 54, i, 0, 1);
            x.line(i);
            x.let(i);
            x.quiet(i + 1, 1);
            x.tell(i);
        }
        int z = x.count(9);
        int[] full = {6, 96, 12, 6, 10, 8, 50, 20, 0, z};
        x.image();
        x.text(0);
        x.check(0);
        x.seed(0);
        due("a full one", x.restore(), 96);
        for (int what = 0; what <= 9; what++) {
            due("count(" + what + ") of a full one", x.count(what), full[what]);
        }
        due("the last COUNTING", x.as(11, 0), 11);
        due("the last RING's BAR", x.ringOf(95, 0), 5);
    }

    private static void restores() {
        edge(45, "All is as the IMAGE has it, which stays: how many RINGS there are. NONE: there is none.");
        refused(NONE, "no IMAGE", () -> x.restore());
        bars(0);
        rings(0, 1, 5, 6);
        refused(NONE, "no IMAGE still", () -> x.restore());
        due("two RINGS stay", x.count(1), 2);
        x.image();
        due("as it is", x.restore(), 2);
        rings(0, 1, 7);
        x.clock(0, 9);
        due("two", x.restore(), 2);
        due("CLOCK", x.clock(0, 9), 0);
        x.ring(0, 8, 1);
        due("the IMAGE stays", x.restore(), 2);
        due("the IMAGE's CLOCK stays", x.clock(0, 0), 0);
        due("RINGS go on from there", x.ring(0, 9, 1), 2);
        edge(45, "All is as the IMAGE has it");
        bars(0, 1);
        x.image();
        bars(2);
        rings(2, 1, 5);
        x.counting(5, 1, 7, 0, 1);
        x.line(9);
        x.let(9);
        x.quiet(1, 1);
        x.restore();
        refused(BEYOND, "no BAR that came later", () -> x.onTape(2, 0));
        refused(BEYOND, "no RING that came later", () -> x.ringOf(0, 0));
        refused(BEYOND, "no COUNTING that came later", () -> x.as(0, 0));
        due("its number is given again", x.counting(0, 10, 8, 0, 1), 0);
        due("its LINE", x.as(0, 0), 8);
        refused(KIND, "its KIND", () -> x.as(0, 5));
        refused(NONE, "no LINE TRIED that came later", () -> x.chosen(0, 1));
        due("QUIET ones go on from there", x.quiet(1, 100), 1);
        due("BOUND of that one", x.bound(1), 300);
        due("LETS go on from there", x.let(700), 0);
        due("BARS go on from there", x.bar(0), 2);
        rings(2, 1, 700);
        due("SEEN", x.seen(2, 0, 0), 1);
    }

    private static void tells() {
        edge(46, "One more number waits: how many. FULL: 20 wait.");
        for (int i = 1; i <= 20; i++) {
            due("number " + i, x.tell(i % 2 == 0 ? LEAST : MOST), i);
        }
        refusedEach(FULL, "a 21st", v -> x.tell(v), 0, LEAST, MOST);
        due("20 wait", x.count(7), 20);
        x.check(0);
        due("there is room again", x.tell(0), 1);
    }

    private static int checkOf(int counting, int... numbers) {
        for (int number : numbers) {
            x.tell(number);
        }
        return x.check(counting);
    }

    private static void checks() {
        edge(47, "The numbers that wait (none do then) are RINGS of a, as they stand on THE TAPE, that meet one of b by a "
                + "COUNTING (slid by 0): 0; else 1 and the place (from 0) of the first that isn't the next one of these, "
                + "or is missing.");
        bars(0, 1);
        x.counting(0, 1, 10, 1, 1);
        due("none meet, none wait", checkOf(0), 0);
        due("none meet, one waits", checkOf(0, 0), 1);
        rings(0, 500, 300, 200, 100);
        rings(0, 10, 100);
        rings(1, 500, 101, 202, 299);
        // On THE TAPE a has 2 (100), 3 (100, not above the LINE), 1 (200, 2 away), 0 (300).
        due("as they stand on THE TAPE", checkOf(0, 2, 0), 0);
        due("none do then", x.count(7), 0);
        due("none wait, the first is missing", checkOf(0), 1);
        due("the second is missing", checkOf(0, 2), 2);
        due("one too many", checkOf(0, 2, 0, 1), 3);
        due("one twice", checkOf(0, 2, 2), 2);
        due("by numbers", checkOf(0, 0, 2), 1);
        due("one that isn't above the LINE", checkOf(0, 2, 3, 0), 2);
        due("one that meets none", checkOf(0, 2, 1, 0), 2);
        due("a RING of b", checkOf(0, 2, 4), 2);
        due("no RING at all", checkOf(0, LEAST, 0), 1);
        due("no RING at all", checkOf(0, 2, MOST), 2);
        due("none do, by 1 and more, too", x.count(7), 0);
        edge(47, "(slid by 0)");
        bars(0, 1);
        rings(0, 500, 110, 200);
        rings(1, 500, 100, 200);
        x.counting(6, 1, 0, 0, 10);
        due("SLID is slid by 0 here", checkOf(0, 1), 0);
        due("not by its SLIDE", checkOf(0, 0), 1);
    }

    private static void checksOfMany() {
        edge(47, "or is missing");
        bars(0, 1);
        rings(1, 1, 500);
        x.counting(0, 1, 0, 50, 1);
        int[] rings = new int[20];
        for (int i = 0; i < 20; i++) {
            rings[i] = x.ring(0, 490 + i, 1);
        }
        due("20 of 20", checkOf(0, rings), 0);
        x.ring(0, 520, 1);
        due("20 of 21: the last is missing", checkOf(0, rings), 21);
        rings[19] = 0;
        due("the last isn't the next one", checkOf(0, rings), 20);
    }

    private static void checksRefused() {
        edge(47, "BEYOND (none wait then, too).");
        refused(BEYOND, "no COUNTINGS, none wait", () -> x.check(0));
        int[] any = {-1, 1, LEAST, MOST};
        bars(0, 1);
        x.counting(0, 1, 0, 0, 1);
        for (int counting : any) {
            x.tell(5);
            x.tell(6);
            refused(BEYOND, "COUNTING " + counting, () -> x.check(counting));
            due("none wait then", x.count(7), 0);
        }
        for (int i = 0; i < 20; i++) {
            x.tell(i);
        }
        refused(BEYOND, "20 waited", () -> x.check(12));
        due("none wait then", x.count(7), 0);
        due("there is room", x.tell(0), 1);
    }

    private static void counts() {
        edge(48, "0 BARS, 1 RINGS, 2 COUNTINGS, 3 LINES TRIED, 4 LETS, 5 QUIET ones, 6 bytes of THE STRIP, 7 numbers that "
                + "wait, 8 BODIES in THE TRACE, 9 z (any number). BEYOND.");
        bars(0, 0);
        rings(0, 1, 5, 5, 5);
        x.counting(1, 1, 0, 0, 1);
        for (int i = 0; i < 4; i++) {
            x.line(0);
        }
        for (int i = 0; i < 5; i++) {
            x.let(0);
        }
        for (int i = 0; i < 6; i++) {
            x.quiet(1, 1);
        }
        x.feed(0, 7);
        for (int i = 0; i < 8; i++) {
            x.tell(0);
        }
        x.voice(0, 3, 0);
        int[] all = {2, 3, 1, 4, 5, 6, 7, 8, 5, 1};
        for (int what = 0; what <= 9; what++) {
            due("count(" + what + ")", x.count(what), all[what]);
        }
        beyond("what", v -> x.count(v), -1, 10, LEAST, MOST);
        for (int error = KIND; error <= LOW; error++) {
            x.seed(error);
            due("z like an ERROR", x.count(9), error);
        }
        due("which is none", x.told(2) + x.told(3) + x.told(4) + x.told(5), 0);
    }

    private static void tolds() {
        edge(49, "How many acts have answered an ERROR LOW - k (k 1 .. 5); BEYOND: another k (counted, too).");
        for (int k = 1; k <= 5; k++) {
            due("none yet", x.told(k), 0);
        }
        beyond("k", v -> x.told(v), 0, 6, -1, LEAST, MOST);
        due("they are counted, too", x.told(1), 5);
        x.restore();
        due("NONE", x.told(2), 1);
        x.sheet(0, 8, -1);
        due("STATE", x.told(3), 1);
        bars(0, 0, 0, 0, 0, 0, 0);
        due("FULL", x.told(4), 1);
        x.counting(0, 1, 0, 0, 1);
        x.as(0, 1);
        due("KIND", x.told(5), 1);
        x.all(6, 0, 0);
        due("a long, too", x.told(1), 6);
        x.text(0);
        due("a FAULT is none", x.told(1) + x.told(2) + x.told(3) + x.told(4) + x.told(5), 10);
    }

    private static void manyCalls() {
        edge(49, "An object is used for at most 512 calls after it has been made");
        for (int i = 0; i < 511; i++) {
            x.told(0);
        }
        due("the 512th call", x.told(1), 511);
        edge(44, "An object is used for at most 512 calls after it has been made");
        for (int i = 1; i <= 512; i++) {
            due("image()", x.image(), i);
        }
    }
}
