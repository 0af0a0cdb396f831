import java.lang.reflect.InvocationTargetException;
import java.lang.reflect.Method;
import java.util.ArrayList;
import java.util.Arrays;
import java.util.HashMap;
import java.util.List;
import java.util.Map;
import java.util.function.Consumer;

/**
 * Calls that answer an ERROR: behind each the object is asked for all that it holds, and answers as one
 * does that was never called so; but told() tells of one more.
 */
final class RefusedEdges extends Edge {
    private static final int[] ANY = {};
    private static final int[] HOUSES = {-1, 3, LEAST, MOST};
    private static final int[] BARS = {-1, 6, LEAST, MOST};
    private static final int[] PAIRS = {-1, 0, 11, 6, 60, 101, LEAST, MOST};
    private static final int[] RINGS = {-1, 96, LEAST, MOST};
    private static final int[] TENTHS = {-1, 10000, LEAST, MOST};
    private static final int[] HEIGHTS = {0, 1000, LEAST, MOST};
    private static final int[] LINES = {-1, 1000, LEAST, MOST};
    private static final int[] WINDOWS = {-1, 51, LEAST, MOST};
    private static final int[] KINDS = {-1, 8, LEAST, MOST};
    private static final int[] COUNTINGS = {-1, 12, LEAST, MOST};
    private static final int[] SLIDES = {0, 41, LEAST, MOST};
    private static final int[] PARTS = {-1, 2, LEAST, MOST};
    private static final int[] LAWS = {-1, 6, LEAST, MOST};
    private static final int[] YEARS = {-1, 8, LEAST, MOST};
    private static final int[] NUMBERS = {-1, 100, LEAST, MOST};
    private static final int[] SHEETS = {-1, 4, LEAST, MOST};
    private static final int[] PLACES = {-1, 40, LEAST, MOST};

    private static final Map<String, List<Long>> UNTOUCHED = new HashMap<>();
    private static Worlds.World world;

    static void all() {
        Worlds.World[] worlds = {Worlds.NEW, Worlds.FURNISHED, Worlds.FULL};
        for (Worlds.World one : worlds) {
            world = one;
            beyondBars();
            beyondCountings();
            beyondDays();
            beyondLaws();
            beyondSheets();
            checkBeyond();
        }
        fullOnes();
        partlyFull();
        noneOnes();
        others();
        orderOfFull();
        orderOfNone();
        orderOfSheets();
    }

    private static void sentence(int promise) {
        edge(promise, "one that answers an ERROR changes nothing but what told() tells.");
    }

    // ---- what an object answers with and without the call

    private static long call(BarsTogether on, String name, int... arguments) {
        for (Method method : BarsTogether.class.getDeclaredMethods()) {
            if (method.getName().equals(name) && method.getParameterCount() == arguments.length) {
                Object[] all = new Object[arguments.length];
                for (int i = 0; i < all.length; i++) {
                    boolean wide = method.getParameterTypes()[i] == long.class;
                    all[i] = wide ? (Object) (long) arguments[i] : (Object) arguments[i];
                }
                try {
                    return ((Number) method.invoke(on, all)).longValue();
                } catch (IllegalAccessException | InvocationTargetException fault) {
                    throw new IllegalStateException(name + Arrays.toString(arguments), fault);
                }
            }
        }
        throw new IllegalStateException("no method " + name);
    }

    /** What a probe answers, and what is told then: the last five. */
    private static List<Long> answers(BarsTogether of, int probe) {
        Worlds.Asked asked = new Worlds.Asked(of);
        int probes = Worlds.PROBES.size();
        if (probe >= probes) {
            asked.keep(of.restore());
        }
        Worlds.PROBES.get(probe % probes).accept(asked);
        for (int k = 1; k <= 5; k++) {
            asked.keep(of.told(k));
        }
        return asked.answers;
    }

    private static List<Long> untouched(int probe, String key, Consumer<BarsTogether> instead) {
        return UNTOUCHED.computeIfAbsent(world.name() + key + probe, any -> {
            BarsTogether other = new BarsTogether();
            world.built().accept(other);
            instead.accept(other);
            return answers(other, probe);
        });
    }

    private static void refusedCall(int error, String name, int... arguments) {
        refusedBut(error, "", other -> { }, name, arguments);
    }

    /** The object must answer as another one with which something else was done instead. */
    private static void refusedBut(int error, String key, Consumer<BarsTogether> instead, String name, int... arguments) {
        String what = name + Arrays.toString(arguments) + " in " + world.name();
        for (int probe = 0; probe < 2 * Worlds.PROBES.size(); probe++) {
            x = new BarsTogether();
            world.built().accept(x);
            due(what, call(x, name, arguments), error);
            List<Long> want = new ArrayList<>(untouched(probe, key, instead));
            int told = want.size() - 5 + (LOW - error - 1);
            want.set(told, want.get(told) + 1);
            due(what + ": alike behind it by probe " + probe, answers(x, probe).equals(want) ? 1 : 0, 1);
        }
    }

    /** Each argument by turns is one of its bad ones, the others being good; then all are bad. */
    private static void beyondEach(int promise, String name, int[] good, int[]... bad) {
        sentence(promise);
        int[] worst = good.clone();
        for (int place = 0; place < bad.length; place++) {
            for (int value : bad[place]) {
                int[] arguments = good.clone();
                arguments[place] = value;
                worst[place] = value;
                refusedCall(BEYOND, name, arguments);
            }
        }
        refusedCall(BEYOND, name, worst);
    }

    private static int[] good(int... arguments) {
        return arguments;
    }

    // ---- BEYOND, by each argument

    private static void beyondBars() {
        beyondEach(2, "clock", good(0, 5), HOUSES, new int[] {-1000, 1000, LEAST, MOST});
        beyondEach(3, "bar", good(0), HOUSES);
        beyondEach(4, "ring", good(0, 5, 5), BARS, TENTHS, HEIGHTS);
        beyondEach(5, "ringOf", good(0, 0), RINGS, new int[] {-1, 5, LEAST, MOST});
        beyondEach(6, "onTape", good(0, 0), BARS, new int[] {-1, LEAST});
        beyondEach(7, "counts", good(0, 0), RINGS, LINES);
        beyondEach(8, "rows", good(0, 0), BARS, SHEETS);
        beyondEach(9, "feed", good('1', 1), ANY, new int[] {0, 9, LEAST, MOST});
        beyondEach(10, "text", good(3), new int[] {-1, 9, LEAST, MOST});
        beyondEach(11, "law", good(0, 0, 0), LAWS);
    }

    private static void beyondCountings() {
        beyondEach(12, "meets", good(1, 0, 5, 0), PAIRS, LINES, WINDOWS, new int[] {-10000, 10000, LEAST, MOST});
        beyondEach(13, "counting", good(0, 1, 0, 5, 7), KINDS, PAIRS, LINES, WINDOWS, HEIGHTS);
        beyondEach(14, "as", good(0, 0), COUNTINGS, KINDS);
        beyondEach(15, "gives", good(0), COUNTINGS);
        beyondEach(16, "chance", good(0, 5, 0), COUNTINGS, SLIDES, PARTS);
        beyondEach(17, "ahead", good(0, 5, 5), COUNTINGS, SLIDES, new int[] {-1, 101, LEAST, MOST});
        beyondEach(18, "line", good(5), LINES);
        beyondEach(19, "chosen", good(0, 5), COUNTINGS, SLIDES);
        beyondEach(20, "paid", good(0, 5, 0), COUNTINGS, SLIDES, PARTS);
    }

    private static void beyondDays() {
        int[] periods = {11, 1000, LEAST, MOST};
        int[] firsts = {11, 31, 1000, LEAST, MOST};
        int[] lasts = {11, 23, 64, 1000, LEAST, MOST};
        beyondEach(21, "let", good(5), TENTHS);
        beyondEach(22, "seen", good(0, 0, 5), BARS, LINES, WINDOWS);
        beyondEach(23, "wrong", good(0, 0, 5), BARS, LINES, WINDOWS);
        beyondEach(24, "hours", good(1, 5000, 30, 0), PAIRS, new int[] {-1, 51000, LEAST, MOST},
                new int[] {-1, 401, LEAST, MOST}, PARTS);
        beyondEach(25, "spread", good(0, 0, 24), BARS, LINES, periods);
        beyondEach(26, "stars", good(0, 0, 24, 30), BARS, LINES, firsts, lasts);
        beyondEach(27, "tried", good(0, 0, 24, 30, 24), BARS, LINES, firsts, lasts, periods);
    }

    private static void beyondLaws() {
        beyondEach(28, "weight", good(0, 7), LAWS, NUMBERS);
        beyondEach(29, "year", good(0, 7), YEARS, NUMBERS);
        beyondEach(30, "all", good(0, 0, 0), LAWS, YEARS, PARTS);
        beyondEach(31, "say", good(0), YEARS);
        beyondEach(32, "find", good(0, 1), LAWS, LAWS);
        beyondEach(33, "quiet", good(5, 5), HEIGHTS, new int[] {0, 10000, LEAST, MOST});
        beyondEach(34, "bound", good(999), HEIGHTS);
        beyondEach(35, "gone", good(5, 5, 5), new int[] {0, 100000, LEAST, MOST}, HEIGHTS, new int[] {0, 10, LEAST, MOST});
        beyondEach(37, "made", good(0, 1), BARS, new int[] {0, 21, LEAST, MOST});
        beyondEach(38, "both", good(1, 1), PAIRS, new int[] {0, 11, LEAST, MOST});
        beyondEach(39, "voice", good(0, 3, 5), COUNTINGS, new int[] {-1, 4, LEAST, MOST});
    }

    private static void beyondSheets() {
        beyondEach(41, "sheet", good(0, 8, 4), SHEETS, new int[] {-1, 7, 9, 33, 64, LEAST, MOST}, new int[] {41, MOST});
        beyondEach(42, "put", good(0, 0, 5), SHEETS);
        beyondEach(43, "move", good(0, 0, 1, 0, 1), SHEETS, ANY, SHEETS);
        if (world != Worlds.NEW) {
            beyondEach(42, "put", good(0, 0, 5), ANY, new int[] {-1, 6, LEAST, MOST});
            beyondEach(43, "move", good(0, 0, 1, 0, 1), ANY, PLACES, ANY, PLACES, new int[] {-1, 5, LEAST, MOST});
            beyondEach(43, "move", good(0, 0, 1, 0, 0), ANY, new int[] {-1, 7}, ANY, new int[] {-1, 5});
        }
        beyondEach(48, "count", good(0), new int[] {-1, 10, LEAST, MOST});
        beyondEach(49, "told", good(1), new int[] {0, 6, LEAST, MOST});
    }

    /** Here the document says more than for other ERRORS: none wait then, as behind a check() that was no ERROR. */
    private static void checkBeyond() {
        edge(47, "BEYOND (none wait then, too).");
        for (int counting : COUNTINGS) {
            if (world == Worlds.NEW) {
                refusedCall(BEYOND, "check", counting);
            } else {
                refusedBut(BEYOND, "checked", other -> other.check(0), "check", counting);
            }
        }
    }

    // ---- the other ERRORS

    private static void fullOnes() {
        world = Worlds.FULL;
        String[] names = {"bar", "ring", "feed", "feed", "counting", "line", "let", "quiet", "made", "made", "both", "both",
            "tell"};
        int[] promises = {3, 4, 9, 9, 13, 18, 21, 33, 37, 37, 38, 38, 46};
        int[][] arguments = {{0}, {0, 5, 5}, {'1', 1}, {'1', 8}, {0, 1, 0, 5, 7}, {5}, {5}, {5, 5}, {0, 1}, {0, 20}, {1, 1},
            {1, 10}, {5}};
        for (int i = 0; i < names.length; i++) {
            sentence(promises[i]);
            refusedCall(FULL, names[i], arguments[i]);
        }
    }

    private static void partlyFull() {
        world = Worlds.NEARLY_FULL;
        edge(37, "FULL: they have no room (none comes, z stays).");
        refusedCall(FULL, "made", 0, 2);
        refusedCall(FULL, "made", 0, 20);
        edge(38, "FULL likewise.");
        refusedCall(FULL, "both", 1, 1);
        refusedCall(FULL, "both", 1, 10);
        sentence(9);
        refusedCall(FULL, "feed", '1', 2);
        refusedCall(FULL, "feed", '1', 8);
    }

    private static void noneOnes() {
        Worlds.World[] withoutImage = {Worlds.NEW, Worlds.BARE};
        for (Worlds.World one : withoutImage) {
            world = one;
            sentence(45);
            refusedCall(NONE, "restore");
        }
        sentence(6);
        refusedCall(NONE, "onTape", 0, 0);
        sentence(19);
        refusedCall(NONE, "chosen", 0, 40);
        sentence(20);
        refusedCall(NONE, "paid", 0, 40, 0);
        sentence(34);
        refusedCall(NONE, "bound", 999);
        world = Worlds.FURNISHED;
        refusedCall(NONE, "bound", 19);
        sentence(6);
        refusedCall(NONE, "onTape", 0, 4);
        refusedCall(NONE, "onTape", 0, MOST);
        sentence(8);
        refusedCall(NONE, "rows", 0, 3);
        sentence(32);
        refusedCall(NONE, "find", 3, 5);
        refusedCall(NONE, "find", 0, 0);
        sentence(40);
        for (int i : PLACES) {
            refusedCall(NONE, "trace", i);
        }
        sentence(42);
        refusedCall(NONE, "put", 3, 0, 5);
        refusedCall(NONE, "put", 3, -1, 5);
        sentence(43);
        refusedCall(NONE, "move", 3, 0, 0, 0, 1);
        refusedCall(NONE, "move", 0, 0, 3, 0, 1);
        refusedCall(NONE, "move", 3, -1, 3, -1, -1);
    }

    private static void others() {
        Worlds.World[] worlds = {Worlds.FURNISHED, Worlds.FULL};
        for (Worlds.World one : worlds) {
            world = one;
            sentence(14);
            refusedCall(KIND, "as", 0, 1);
            refusedCall(KIND, "as", 1, 5);
            sentence(43);
            refusedCall(KIND, "move", 0, 0, 2, 0, 1);
            refusedCall(KIND, "move", 2, -1, 0, -1, -1);
            sentence(41);
            refusedCall(STATE, "sheet", 0, 16, -1);
            refusedCall(STATE, "sheet", 3, 8, LEAST);
        }
    }
    // ---- the first of several ERRORS that hold

    private static void first(int promise, int error, String name, int... arguments) {
        edge(promise, "Each act tells its ERRORS in the order in which they are asked");
        refusedCall(error, name, arguments);
    }

    private static void orderOfFull() {
        world = Worlds.FULL;
        first(3, BEYOND, "bar", 3);
        first(4, BEYOND, "ring", 6, 5, 5);
        first(9, BEYOND, "feed", '1', 9);
        first(13, BEYOND, "counting", 0, 1, 0, 5, 0);
        first(18, BEYOND, "line", 1000);
        first(21, BEYOND, "let", 10000);
        first(33, BEYOND, "quiet", 5, 10000);
        first(37, BEYOND, "made", 0, 21);
        first(38, BEYOND, "both", 1, 11);
    }

    private static void orderOfNone() {
        world = Worlds.BARE;
        first(6, BEYOND, "onTape", 2, 96);
        first(8, BEYOND, "rows", 2, 0);
        first(14, BEYOND, "as", 1, 1);
        first(14, BEYOND, "as", 0, 8);
        first(19, BEYOND, "chosen", 1, 5);
        first(19, BEYOND, "chosen", 0, 41);
        first(20, BEYOND, "paid", 0, 5, 2);
        first(32, BEYOND, "find", 6, 6);
        first(34, BEYOND, "bound", 1000);
    }

    private static void orderOfSheets() {
        world = Worlds.FURNISHED;
        first(41, BEYOND, "sheet", 4, 8, -1);
        first(41, BEYOND, "sheet", 0, 7, -1);
        first(41, STATE, "sheet", 0, 8, -1);
        first(42, BEYOND, "put", 4, -1, 5);
        first(42, NONE, "put", 3, -1, 5);
        first(43, BEYOND, "move", 4, -1, 3, -1, -1);
        first(43, BEYOND, "move", 3, -1, 4, -1, -1);
        first(43, NONE, "move", 3, -1, 0, -1, -1);
        first(43, NONE, "move", 2, -1, 3, -1, -1);
        first(43, KIND, "move", 2, -1, 0, -1, -1);
    }
}
