import java.util.ArrayList;
import java.util.List;
import java.util.function.Consumer;

/**
 * Objects with much in them, and ways to ask an object for all that it holds; both together take fewer
 * than the 512 calls that the document gives an object.
 */
final class Worlds {
    /** A name, and what is done with a new object. */
    record World(String name, Consumer<BarsTogether> built) {
    }

    static final World NEW = new World("a new object", x -> { });
    static final World BARE = new World("two BARS, a COUNTING, and no IMAGE", Worlds::bare);
    static final World FURNISHED = new World("some of all, and an IMAGE", Worlds::furnished);
    static final World NEARLY_FULL = new World("95 RINGS and 49 bytes", Worlds::nearlyFull);
    static final World FULL = new World("as much as there can be of all", Worlds::full);

    private Worlds() {
    }

    private static void bare(BarsTogether x) {
        x.bar(0);
        x.bar(1);
        x.counting(3, 1, 0, 5, 7);
    }

    private static void read(BarsTogether x, String text, int use) {
        for (char sign : text.toCharArray()) {
            x.feed(sign, 1);
        }
        x.text(use);
    }

    /** The IMAGE has a little of all; what came behind it differs from it in all. */
    private static void furnished(BarsTogether x) {
        x.bar(0);
        x.bar(1);
        x.bar(0);
        x.clock(1, 20);
        x.both(1, 4);
        x.made(2, 3);
        read(x, "h>50", 0);
        read(x, "n+1", 3);
        x.counting(0, 1, 0, 30, 7);
        x.counting(7, 10, 100, 10, 9);
        x.line(0);
        x.line(300);
        x.let(x.ringOf(0, 1));
        x.quiet(50, 100);
        x.weight(0, 3);
        x.year(0, 4);
        tellThoseThatMeet(x);
        x.feed('7', 1);
        sheet(x, 0, 16, 6);
        sheet(x, 1, 16, 4);
        sheet(x, 2, 8, 2);
        x.image();
        x.clock(1, 0);
        x.made(1, 5);
        read(x, "*n", 5);
        read(x, "y*2", 4);
        x.counting(4, 2, 50, 20, 11);
        x.line(600);
        x.let(x.ringOf(9, 1));
        x.quiet(20, 300);
        x.weight(1, 5);
        x.year(7, 6);
        x.feed(0x6e2b33L, 3);
        x.voice(1, 3, 5);
    }

    /** Those of BAR 0 that COUNT have one of BAR 1 at the same TENTH, so check(0) answers 0. */
    private static void tellThoseThatMeet(BarsTogether x) {
        for (int i = 0; i < 4; i++) {
            int ring = x.onTape(0, i);
            if (x.counts(ring, 0) == 1) {
                x.tell(ring);
            }
        }
    }

    private static void sheet(BarsTogether x, int sheet, int bits, int n) {
        x.sheet(sheet, bits, n);
        for (int i = 0; i < n; i++) {
            x.put(sheet, i, 100 + 6 * sheet + i);
        }
    }

    /** Behind the 16 RINGS and 3 bytes of a furnished one. */
    private static void nearlyFull(BarsTogether x) {
        furnished(x);
        for (int i = 0; i < 3; i++) {
            x.made(0, 20);
        }
        x.made(0, 19);
        feedTo49(x);
    }

    private static void feedTo49(BarsTogether x) {
        long ones = 0x312b312b312b312bL;
        for (int i = 0; i < 5; i++) {
            x.feed(ones, 8);
        }
        x.feed(ones, 6);
    }

    private static void full(BarsTogether x) {
        furnished(x);
        for (int i = 0; i < 3; i++) {
            x.bar(2);
        }
        for (int i = 0; i < 4; i++) {
            x.made(5, 20);
        }
        feedTo49(x);
        x.feed('1', 1);
        for (int i = 0; i < 3; i++) {
            x.line(i);
        }
        for (int i = 0; i < 6; i++) {
            x.quiet(900 + i, 1 + i);
        }
        for (int i = 0; i < 8; i++) {
            x.let(100 * i);
        }
        for (int i = 0; i < 9; i++) {
            x.counting(i % 8, 15, i, 50, 1 + i);
        }
        for (int i = 0; i < 16; i++) {
            x.tell(i);
        }
    }

    static final List<Consumer<Asked>> PROBES = List.of(Worlds::rings, Worlds::tapes, Worlds::countings, Worlds::laws,
            Worlds::stripAndSheets);

    /** An object that is asked, and what it answered. */
    static final class Asked {
        final BarsTogether x;
        final List<Long> answers = new ArrayList<>();

        Asked(BarsTogether x) {
            this.x = x;
        }

        void keep(long answer) {
            answers.add(answer);
        }
    }

    private static void rings(Asked asked) {
        for (int what = 0; what <= 9; what++) {
            asked.keep(asked.x.count(what));
        }
        int rings = asked.x.count(1);
        for (int ring = 0; ring < rings; ring++) {
            for (int what = 0; what <= 2; what++) {
                asked.keep(asked.x.ringOf(ring, what));
            }
        }
    }

    private static void tapes(Asked asked) {
        for (int bar = 0; bar < 6; bar++) {
            int ring = 0;
            for (int place = 0; ring >= 0; place++) {
                ring = asked.x.onTape(bar, place);
                asked.keep(ring);
            }
            asked.keep(asked.x.seen(bar, 0, 50));
            asked.keep(asked.x.wrong(bar, 0, 50));
        }
        int rings = asked.x.count(1);
        for (int ring = 0; ring < rings; ring++) {
            asked.keep(asked.x.counts(ring, 0));
        }
        for (int house = 0; house < 3; house++) {
            asked.keep(asked.x.clock(house, 0));
        }
    }

    private static void countings(Asked asked) {
        for (int counting = 0; counting < 12; counting++) {
            for (int kind = 0; kind < 8; kind++) {
                asked.keep(asked.x.as(counting, kind));
            }
            asked.keep(asked.x.gives(counting));
            asked.keep(asked.x.ahead(counting, 7, 30));
            asked.keep(asked.x.chosen(counting, 7));
            for (int part = 0; part < 2; part++) {
                asked.keep(asked.x.chance(counting, 7, part));
                asked.keep(asked.x.paid(counting, 7, part));
            }
        }
        for (int i = 0; i < 41; i++) {
            asked.keep(asked.x.trace(i));
        }
        for (int height = 1; height <= 999; height += 13) {
            asked.keep(asked.x.bound(height));
        }
    }

    private static void laws(Asked asked) {
        for (int law = 0; law < 6; law++) {
            for (int n = 0; n < 5; n++) {
                asked.keep(asked.x.law(law, n, 2 * n));
            }
            for (int year = 0; year < 8; year++) {
                asked.keep(asked.x.all(law, year, 0));
                asked.keep(asked.x.all(law, year, 1));
            }
            asked.keep(asked.x.find(0, law));
        }
        for (int law = 0; law < 6; law++) {
            asked.keep(asked.x.weight(law, 1));
        }
        for (int year = 0; year < 8; year++) {
            asked.keep(asked.x.say(year));
            asked.keep(asked.x.year(year, 0));
        }
    }

    private static void stripAndSheets(Asked asked) {
        BarsTogether x = asked.x;
        asked.keep(x.image());
        asked.keep(x.check(0));
        asked.keep(x.text(3));
        for (int n = 0; n < 5; n++) {
            asked.keep(x.law(0, n, 1));
        }
        for (int sheet = 0; sheet < 4; sheet++) {
            for (int other = 0; other < 4; other++) {
                asked.keep(x.move(sheet, 0, other, 0, 0));
            }
            int came = x.rows(0, sheet);
            asked.keep(came);
            int rings = x.count(1);
            for (int i = 1; i <= came; i++) {
                asked.keep(x.ringOf(rings - i, 1));
                asked.keep(x.ringOf(rings - i, 2));
            }
            for (int i = 0; i < 41; i++) {
                asked.keep(x.put(sheet, i, 1));
            }
        }
    }
}
