import java.nio.file.Files;
import java.nio.file.Path;
import java.util.Map;
import java.util.TreeMap;
import java.util.regex.Matcher;
import java.util.regex.Pattern;

/**
 * Each sentence of the document that names a bound, with a test of its own; and that each sentence of
 * its terms and of its promises has one.
 */
public final class EdgesTest {
    private static final Path DOCUMENT = Path.of("../shared/DOC.md");
    private static final int PROMISES = 49;

    /** Sections of the document by promises, all in one row; 0 has what stands ahead of them. */
    private final Map<Integer, String> sections = new TreeMap<>();
    private final Map<Integer, boolean[]> tested = new TreeMap<>();
    private int wrong;

    public static void main(String[] args) throws Exception {
        BarsEdges.all();
        TextsEdges.all();
        CountingsEdges.all();
        SlidesEdges.all();
        DaysEdges.all();
        LawsEdges.all();
        DrawsEdges.all();
        SheetsEdges.all();
        RefusedEdges.all();
        int untested = new EdgesTest().sentencesWithoutTest(Files.readString(DOCUMENT));
        if (Edge.wrong + untested > 0) {
            System.out.println(Edge.wrong + " of " + Edge.asked + " are not as due");
            System.exit(1);
        }
        System.out.println(Edge.asked + " answers at edges are as due, by " + Edge.SENTENCES.size() + " tests");
    }

    private int sentencesWithoutTest(String document) {
        divide(document);
        for (Edge.Sentence sentence : Edge.SENTENCES) {
            if (!mark(sentence.promise(), sentence.words()) && !mark(0, sentence.words())) {
                refuse("promise " + sentence.promise() + ": the document doesn't say: " + sentence.words());
            }
        }
        sections.forEach(this::askForEach);
        return wrong;
    }

    private void refuse(String why) {
        wrong++;
        System.out.println(why);
    }

    private void divide(String document) {
        String[] parts = document.substring(0, document.indexOf("## Not promised")).split("## Promise ");
        if (parts.length != PROMISES + 1) {
            refuse("the document has " + (parts.length - 1) + " promises");
        }
        for (int i = 0; i < parts.length; i++) {
            String words = parts[i].replaceAll("```java[^`]*```", " ").replaceAll("```(text)?", " ");
            sections.put(i, words.replaceAll("\\s+", " "));
            tested.put(i, new boolean[sections.get(i).length()]);
        }
    }

    private boolean mark(int section, String words) {
        int at = sections.getOrDefault(section, "").indexOf(words);
        for (int i = 0; at >= 0 && i < words.length(); i++) {
            tested.get(section)[at + i] = true;
        }
        return at >= 0;
    }

    /** A sentence ends with a dot that is no part of "..", ahead of a blank. */
    private void askForEach(int section, String words) {
        int from = section == 0 ? words.indexOf("ERRORS are answers") : words.indexOf('`');
        int to = section == 0 ? words.indexOf("Ahead of the calls") : words.length();
        Matcher sentence = Pattern.compile("\\S.*?(?<!\\.)\\.(?!\\S)").matcher(words).region(from, to);
        while (sentence.find()) {
            boolean number = sentence.group().matches("[0-9]\\.");
            if (!number && !isTested(section, sentence.start(), sentence.end())) {
                refuse("promise " + section + " (0: terms): no test for: " + sentence.group());
            }
        }
    }

    private boolean isTested(int section, int from, int to) {
        for (int i = from; i < to; i++) {
            if (tested.get(section)[i]) {
                return true;
            }
        }
        return false;
    }
}
