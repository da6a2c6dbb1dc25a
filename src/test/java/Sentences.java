import java.util.ArrayList;
import java.util.Comparator;
import java.util.List;
import java.util.Map;
import java.util.TreeMap;
import java.util.function.Consumer;

/** Runs a test for each sentence of the document, and finds the sentences that have none. */
final class Sentences {
    /** These stand for sections without a number, where otherwise the number of a promise stands. */
    static final int WHAT_IT_IS = -1;
    static final int TERMS = 0;
    static final int NOT_PROMISED = 64;

    /** FaceTest reads this section. */
    private static final String FACE = "The public face";

    private final Check check = new Check();
    private final Map<Integer, List<String>> told = new TreeMap<>();

    void of(int promise, String sentence, Consumer<Check> test) {
        note(promise, sentence);
        check.head(title(promise) + ": \"" + sentence + "\": ");
        int before = check.asked();
        try {
            test.accept(check);
        } catch (RuntimeException thrown) {
            check.dueText("the test", "throws " + thrown, "ends");
        }
        check.due("a test that asks nothing", check.asked() == before ? 1 : 0, 0);
        check.head("");
    }

    /** A sentence that names no boundary, or a title: nothing is tested for it here. */
    void noEdge(int promise, String... sentences) {
        for (String sentence : sentences) {
            note(promise, sentence);
        }
    }

    /** Each sentence told is to stand in its section of the document, and there none but those told. */
    void compareWith(String document) {
        check.due("sections", document.split("(?m)^## ").length - 1, NOT_PROMISED - WHAT_IT_IS + 2);
        check.due("has " + FACE, document.contains("\n## " + FACE + "\n") ? 1 : 0, 1);
        for (int promise = WHAT_IT_IS; promise <= NOT_PROMISED; promise++) {
            List<String> sentences = told.getOrDefault(promise, new ArrayList<>());
            sentences.sort(Comparator.comparing(String::length).reversed());
            String rest = section(document, promise);
            for (String sentence : sentences) {
                check.due(title(promise) + " has \"" + sentence + "\"", rest.contains(sentence) ? 1 : 0, 1);
                rest = rest.replace(sentence, "");
            }
            check.dueText(title(promise) + ": what has no test", rest.replaceAll("[\\s.;:-]", ""), "");
        }
    }

    void end() {
        check.end();
    }

    private void note(int promise, String sentence) {
        List<String> sentences = told.computeIfAbsent(promise, number -> new ArrayList<>());
        if (!sentences.contains(sentence)) {
            sentences.add(sentence);
        }
    }

    private static String title(int promise) {
        switch (promise) {
            case WHAT_IT_IS:
                return "What it is";
            case TERMS:
                return "Terms";
            case NOT_PROMISED:
                return "Not promised";
            default:
                return "Promise " + promise;
        }
    }

    /** Without its heading, the declarations of the calls, and the lines that only put the calls in order. */
    private static String section(String document, int promise) {
        boolean numbered = promise > TERMS && promise < NOT_PROMISED;
        String heading = "## " + title(promise) + (numbered ? ": " : "\n");
        int begin = document.indexOf(heading);
        if (begin < 0) {
            return "no section";
        }
        int end = document.indexOf("\n## ", begin);
        String text = document.substring(begin, end < 0 ? document.length() : end);
        text = text.substring(text.indexOf('\n'));
        text = text.replaceAll("(?m)^Ahead of the calls .*$", "");
        text = text.replaceAll("(?m)^```.*$", "");
        return numbered ? text.replaceAll("(?m)^`[^`]*`: ", "") : text;
    }
}
