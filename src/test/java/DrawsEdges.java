import java.util.function.IntPredicate;

/** Promises 36 to 40: draws, voices, THE TRACE. */
final class DrawsEdges extends Edge {
    static void all() {
        seeds();
        drawsThatWrap();
        drawsAtTheirEnds();
        madeOfN();
        madeWithoutRoom();
        bothOfN();
        bothWithoutRoom();
        voicesGoRound();
        voicesOfKinds();
        voicesLikeErrors();
        voicesRefused();
        traces();
        traceOfAll();
        tracesNone();
    }

    private static int next(int z) {
        return z * 1103515245 + 12345;
    }

    private static void seeds() {
        edge(36, "z becomes v: what it was (any number).");
        int[] any = {LEAST, MOST, 0, -1, BEYOND, NONE, STATE, FULL, KIND, LOW};
        int was = 1;
        for (int v : any) {
            due("seed(" + v + ")", x.seed(v), was);
            due("z", x.count(9), v);
            was = v;
        }
        due("the last one", x.seed(1), LOW);
        for (int k = 1; k <= 5; k++) {
            due("told(" + k + "): none is an ERROR", x.told(k), 0);
        }
    }

    private static void drawsThatWrap() {
        edge(37, "each makes it z * 1103515245 + 12345 (an int), and gives z >>> 8.");
        bars(0);
        int[] seeds = {0, 1, -1, LEAST, MOST, 3};
        for (int i = 0; i < seeds.length; i++) {
            int first = next(seeds[i]);
            int second = next(first);
            x.seed(seeds[i]);
            x.made(0, 1);
            due("z by " + seeds[i], x.count(9), second);
            due("TENTH by " + seeds[i], x.ringOf(i, 1), (first >>> 8) % 2400);
            due("height by " + seeds[i], x.ringOf(i, 2), (second >>> 8) % 999 + 1);
        }
    }

    private static int seedFor(IntPredicate wanted) {
        int seed = 0;
        while (!wanted.test(seed)) {
            seed++;
        }
        return seed;
    }

    private static void drawsAtTheirEnds() {
        edge(37, "TENTH (the rest by 2400), height (by 999, and 1 more)");
        bars(0);
        int[] seeds = {
            seedFor(v -> (next(v) >>> 8) % 2400 == 0), seedFor(v -> (next(v) >>> 8) % 2400 == 2399),
            seedFor(v -> (next(next(v)) >>> 8) % 999 == 0), seedFor(v -> (next(next(v)) >>> 8) % 999 == 998),
            seedFor(v -> next(v) < 0 && next(next(v)) < 0)};
        int[] wants = {0, 2399, 1, 999};
        for (int i = 0; i < seeds.length; i++) {
            x.seed(seeds[i]);
            due("by seed " + seeds[i], x.made(0, 1), i + 1);
            if (i < wants.length) {
                due("at its end", x.ringOf(i, i < 2 ? 1 : 2), wants[i]);
            }
        }
        due("z below 0 gives no TENTH below 0", x.ringOf(4, 1), (next(seeds[4]) >>> 8) % 2400);
    }

    private static void madeOfN() {
        edge(37, "n (1 to 20) RINGS of a BAR come, each by two draws");
        bars(0, 1);
        due("n 1", x.made(1, 1), 1);
        due("its BAR", x.ringOf(0, 0), 1);
        due("two draws", x.count(9), next(next(1)));
        due("n 20", x.made(0, 20), 21);
        int z = 1;
        for (int i = 0; i < 42; i++) {
            z = next(z);
        }
        due("42 draws in all", x.count(9), z);
        beyond("n", v -> x.made(0, v), 0, 21, -1, LEAST, MOST);
        beyond("BAR", v -> x.made(v, 1), -1, 2, LEAST, MOST);
        due("none came", x.count(1), 21);
        due("z stays", x.count(9), z);
    }

    private static void madeWithoutRoom() {
        edge(37, "how many RINGS there are. BEYOND. FULL: they have no room (none comes, z stays).");
        refused(BEYOND, "no BARS", () -> x.made(0, 1));
        bars(0);
        for (int i = 1; i <= 4; i++) {
            x.made(0, 20);
        }
        x.image();
        due("room for 16: just 16", x.made(0, 16), 96);
        x.restore();
        int z = x.count(9);
        refusedEach(FULL, "room for 16, n", v -> x.made(0, v), 17, 20);
        beyond("n ahead of FULL", v -> x.made(0, v), 21, MOST);
        due("none came", x.count(1), 80);
        due("z stays", x.count(9), z);
        x.made(0, 15);
        due("room for one", x.made(0, 1), 96);
        refused(FULL, "no room for one", () -> x.made(0, 1));
        refused(BEYOND, "n 0 ahead of FULL", () -> x.made(0, 0));
        refused(BEYOND, "BAR ahead of FULL", () -> x.made(1, 1));
    }

    private static void bothOfN() {
        edge(38, "n (1 to 10) RINGS of both BARS come: for each two draws likewise, a RING of a, then one of b, at the same "
                + "TENTH, of the same height: how many RINGS there are.");
        bars(0, 1, 2);
        due("n 1", x.both(21, 1), 2);
        due("a first", x.ringOf(0, 0), 2);
        due("then b", x.ringOf(1, 0), 1);
        due("two draws", x.count(9), next(next(1)));
        due("the same TENTH", x.ringOf(0, 1), x.ringOf(1, 1));
        due("the same height", x.ringOf(0, 2), x.ringOf(1, 2));
        due("n 10", x.both(1, 10), 22);
        int z = 1;
        for (int i = 0; i < 22; i++) {
            z = next(z);
        }
        due("22 draws in all", x.count(9), z);
        due("the last of a", x.ringOf(20, 0), 0);
        due("the last of b", x.ringOf(21, 0), 1);
        edge(38, "a RING of a, then one of b");
        bars(0, 0, 0, 0, 0, 0);
        int[] pairs = {5, 50, 45, 54};
        for (int i = 0; i < pairs.length; i++) {
            due("BARS " + pairs[i], x.both(pairs[i], 1), 2 * i + 2);
            due("a of " + pairs[i], x.ringOf(2 * i, 0), pairs[i] / 10);
            due("b of " + pairs[i], x.ringOf(2 * i + 1, 0), pairs[i] % 10);
        }
    }

    private static void bothWithoutRoom() {
        edge(38, "BEYOND: ab, n. FULL likewise.");
        refused(BEYOND, "no BARS", () -> x.both(1, 1));
        bars(0, 1);
        beyond("n", v -> x.both(1, v), 0, 11, -1, LEAST, MOST);
        beyond("ab", v -> x.both(v, 1), -1, 0, 2, 11, 20, LEAST, MOST);
        due("none came", x.count(1), 0);
        due("z stays", x.count(9), 1);
        edge(38, "FULL likewise.");
        bars(0, 1);
        for (int i = 0; i < 4; i++) {
            x.made(0, 20);
        }
        x.image();
        due("room for 16: just 8 and 8", x.both(1, 8), 96);
        x.restore();
        int z = x.count(9);
        refusedEach(FULL, "room for 16, n", v -> x.both(1, v), 9, 10);
        x.made(0, 1);
        refusedEach(FULL, "room for 15, n", v -> x.both(1, v), 8);
        due("none came", x.count(1), 81);
        due("two draws since then", x.count(9), next(next(z)));
        due("7 and 7", x.both(1, 7), 95);
        refused(FULL, "room for one, not for two", () -> x.both(1, 1));
        refused(BEYOND, "n ahead of FULL", () -> x.both(1, 11));
        refused(BEYOND, "n 0 ahead of FULL", () -> x.both(1, 0));
        refused(BEYOND, "ab ahead of FULL", () -> x.both(0, 1));
    }

    /** COUNTINGS 0 to 7 of KINDS 0 to 7, of LINES 1 to 8. */
    private static void eightKinds() {
        bars(0, 1);
        for (int kind = 0; kind < 8; kind++) {
            x.counting(kind, 1, kind + 1, 0, 1);
        }
    }

    private static void voicesGoRound() {
        edge(39, "VOICES of a COUNTING, with a number x (ints that go round); n is its number, l its LINE");
        eightKinds();
        due("x + n", x.voice(1, 0, MOST), LEAST);
        due("x + n, the last that fits", x.voice(1, 0, MOST - 1), MOST);
        due("x - l", x.voice(0, 2, LEAST), MOST);
        due("rings(x) * 2", x.voice(0, 1, 1 << 30), LEAST);
        due("rings(x) * 2 of the least", x.voice(0, 1, LEAST), 0);
        due("super.meets(x) - 1", x.voice(1, 1, (1 << 30) - 1), MOST);
        due("super.bounds(x) * 3", x.voice(4, 2, MOST), (MOST - 5) * 3);
        due("-super.rings(x) of the least", x.voice(6, 0, LEAST - 6), LEAST);
        due("super.tells(x + 1)", x.voice(6, 3, MOST), (-(LEAST + 6) * 2) ^ (LEAST - 7));
        due("super.meets(x) + rings(x)", x.voice(5, 1, MOST - 5), MOST - 2);
        due("bounds(x) + super.tells(x)", x.voice(7, 3, LEAST), (LEAST - 8) + (-(LEAST + 8) * 2 ^ 7 ^ (LEAST + 1 - 8)));
    }

    private static void voicesLikeErrors() {
        edge(39, "A VOICE of a COUNTING: any number.");
        eightKinds();
        for (int error = KIND; error <= LOW; error++) {
            due("a number like an ERROR", x.voice(0, 0, error), error);
        }
        for (int k = 1; k <= 5; k++) {
            due("told(" + k + "): none is one", x.told(k), 0);
        }
    }

    private static void voicesRefused() {
        edge(39, "any number. BEYOND.");
        refused(BEYOND, "no COUNTINGS", () -> x.voice(0, 0, 0));
        eightKinds();
        due("a VOICE", x.voice(3, 3, 0), (2 + 3) * 2 - (6 ^ -4));
        due("seven BODIES", x.count(8), 7);
        beyond("act", v -> x.voice(0, v, 0), -1, 4, LEAST, MOST);
        beyond("COUNTING", v -> x.voice(v, 0, 0), -1, 8, 12, LEAST, MOST);
        due("THE TRACE stays", x.count(8), 7);
        due("THE TRACE stays", x.trace(0), 40);
        edge(39, "0 rings, 1 meets, 2 bounds, 3 tells.");
        eightKinds();
        due("the first", x.voice(0, 0, 10), 10);
        due("the second", x.voice(0, 1, 10), 20);
        due("the third", x.voice(0, 2, 10), 9);
        due("the last", x.voice(0, 3, 10), 20 ^ 9);
    }

    /** What rings, meets, bounds and tells of a COUNTING give for x 5. */
    private static void voiced(int counting, int rings, int meets, int bounds, int tells) {
        int[] wants = {rings, meets, bounds, tells};
        for (int act = 0; act < 4; act++) {
            due("VOICE " + act + " of KIND " + counting, x.voice(counting, act, 5), wants[act]);
        }
    }

    private static void voicesOfKinds() {
        edge(39, "rings(..) is the BODY of its KIND, or of the next KIND above that has one; super.rings(..) that from the "
                + "KIND above the BODY's on.");
        eightKinds();
        voiced(0, 5, 10, 4, 10 ^ 4);
        voiced(1, 6, 11, 3, 11 ^ 3);
        // bounds(1) is 1 - 3.
        voiced(2, 7 - 2, 10, 2, 10 ^ 2);
        // meets(2) is 10.
        voiced(3, 8, 16, 1, 10 - (16 ^ 1));
        voiced(4, 9, 18, 0, 18);
        voiced(5, 10, 30, -1, 30 ^ -1);
        // tells by 6: meets is -24, bounds -1.
        voiced(6, -11, -22, -2, -24 ^ -1);
        // tells by 6: meets is -26 ^ 7, bounds -2; with bounds(5), which is -3.
        voiced(7, -12, -24 ^ 7, -3, -3 + (-26 ^ 7 ^ -2));
        x.counting(4, 1, 0, 0, 1);
        due("LINED of LINE 0", x.voice(8, 2, 5), 15);
    }

    private static void traceIs(int counting, int act, int... bodies) {
        x.voice(counting, act, 5);
        due("BODIES of " + counting + ", " + act, x.count(8), bodies.length);
        for (int i = 0; i < bodies.length; i++) {
            due("BODY " + i + " of " + counting + ", " + act, x.trace(i), bodies[i]);
        }
        due("behind the last of " + counting + ", " + act, x.trace(bodies.length), NONE);
    }

    private static void traces() {
        edge(40, "BODIES: COUNTING: 10 rings: x + n. 11 meets: rings(x) * 2. 12 bounds: x - l. "
                + "13 tells: meets(x) ^ bounds(x).");
        eightKinds();
        traceIs(0, 0, 10);
        traceIs(0, 1, 11, 10);
        traceIs(0, 2, 12);
        traceIs(0, 3, 13, 11, 10, 12);
        edge(40, "WARM: 20 meets: super.meets(x) - 1. PUSHED: 30 rings: super.rings(x) + bounds(1). "
                + "NEAR: 40 tells: meets(2) - super.tells(x). LINED: 50 bounds: super.bounds(x) * 3. "
                + "TWICE: 60 meets: super.meets(x) + rings(x).");
        eightKinds();
        traceIs(1, 1, 20, 11, 10);
        traceIs(1, 3, 13, 20, 11, 10, 12);
        traceIs(2, 0, 30, 10, 12);
        traceIs(2, 3, 13, 11, 30, 10, 12, 12);
        traceIs(3, 3, 40, 11, 10, 13, 11, 10, 12);
        traceIs(4, 2, 50, 12);
        traceIs(4, 3, 13, 11, 10, 50, 12);
        traceIs(5, 1, 60, 11, 10, 10);
        traceIs(5, 3, 13, 60, 11, 10, 10, 12);
        edge(40, "SLID: 70 rings: -super.rings(x). 71 tells: super.tells(x + 1). OFF: 80 meets: super.meets(x) ^ n. "
                + "81 tells: bounds(x) + super.tells(x). rings(..) is the BODY of its KIND, or of the next KIND above that "
                + "has one; super.rings(..) that from the KIND above the BODY's on.");
        eightKinds();
        traceIs(6, 0, 70, 10);
        traceIs(6, 1, 11, 70, 10);
        traceIs(6, 3, 71, 13, 11, 70, 10, 12);
        traceIs(7, 0, 70, 10);
        traceIs(7, 1, 80, 11, 70, 10);
        traceIs(7, 2, 12);
        traceIs(7, 3, 81, 12, 71, 13, 80, 11, 70, 10, 12);
    }

    /** The longest TRACE has nine BODIES, so what the 41st would do can't be seen. */
    private static void traceOfAll() {
        edge(40, "THE TRACE: the numbers of BODIES of the latest voice(), as they began (what stands left is worked out "
                + "first), the first 40.");
        eightKinds();
        int longest = 0;
        for (int counting = 0; counting < 8; counting++) {
            for (int act = 0; act < 4; act++) {
                x.voice(counting, act, counting);
                longest = Math.max(longest, x.count(8));
            }
        }
        due("the longest", longest, 9);
        x.voice(7, 3, 0);
        x.voice(0, 0, 0);
        due("of the latest alone", x.count(8), 1);
        due("its first", x.trace(0), 10);
        refused(NONE, "no second", () -> x.trace(1));
    }

    private static void tracesNone() {
        edge(40, "THE TRACE's i-th. NONE: there is none such.");
        refusedEach(NONE, "no voice() yet", v -> x.trace(v), 0, 1, -1, LEAST, MOST);
        eightKinds();
        x.voice(7, 3, 0);
        due("the first", x.trace(0), 81);
        due("the last", x.trace(8), 12);
        refusedEach(NONE, "i", v -> x.trace(v), 9, 10, 39, 40, 41, -1, LEAST, MOST);
    }
}
