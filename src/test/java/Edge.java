import java.util.ArrayList;
import java.util.List;
import java.util.function.IntToLongFunction;
import java.util.function.LongSupplier;

/** What the tests of edges share: the object that is asked, and which sentence of the document is tested. */
abstract class Edge {
    static final int LOW = -1000000;
    static final int BEYOND = LOW - 1;
    static final int NONE = LOW - 2;
    static final int STATE = LOW - 3;
    static final int FULL = LOW - 4;
    static final int KIND = LOW - 5;
    static final int LEAST = Integer.MIN_VALUE;
    static final int MOST = Integer.MAX_VALUE;

    /** A promise, and the words of the document that are tested for it. */
    record Sentence(int promise, String words) {
    }

    static final List<Sentence> SENTENCES = new ArrayList<>();
    static int asked;
    static int wrong;
    static BarsTogether x;

    /** A test begins, with a new object. */
    static void edge(int promise, String words) {
        SENTENCES.add(new Sentence(promise, words));
        x = new BarsTogether();
    }

    static void due(String what, long got, long want) {
        asked++;
        if (got != want) {
            wrong++;
            Sentence now = SENTENCES.get(SENTENCES.size() - 1);
            System.out.println("promise " + now.promise() + " (" + now.words() + "): " + what + " answered " + got
                    + ", due is " + want);
        }
    }

    /** A call that answers an ERROR, which told() counts once, and no other one. */
    static void refused(int error, String what, LongSupplier call) {
        long[] before = new long[6];
        for (int k = 1; k <= 5; k++) {
            before[k] = x.told(k);
        }
        due(what, call.getAsLong(), error);
        for (int k = 1; k <= 5; k++) {
            due("told(" + k + ") behind " + what, x.told(k), before[k] + (LOW - k == error ? 1 : 0));
        }
    }

    static void refusedEach(int error, String what, IntToLongFunction call, int... values) {
        for (int value : values) {
            refused(error, what + " " + value, () -> call.applyAsLong(value));
        }
    }

    static void beyond(String what, IntToLongFunction call, int... values) {
        refusedEach(BEYOND, what, call, values);
    }

    static void bars(int... houses) {
        for (int house : houses) {
            x.bar(house);
        }
    }

    /** RINGS of a BAR, all of one height, at these TENTHS. */
    static void rings(int bar, int height, int... tenths) {
        for (int tenth : tenths) {
            x.ring(bar, tenth, height);
        }
    }

    static int feed(String text) {
        int there = x.count(6);
        for (int i = 0; i < text.length(); i += 8) {
            String part = text.substring(i, Math.min(i + 8, text.length()));
            there = x.feed(packed(part), part.length());
        }
        return there;
    }

    /** Up to eight signs as a word, the first one lowest. */
    static long packed(String text) {
        long word = 0;
        for (int i = text.length() - 1; i >= 0; i--) {
            word = word << 8 | text.charAt(i);
        }
        return word;
    }

    static int read(String text, int use) {
        feed(text);
        return x.text(use);
    }
}
