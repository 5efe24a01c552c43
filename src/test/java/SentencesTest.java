import java.nio.file.Files;
import java.nio.file.Path;
import java.util.Arrays;
import java.util.Set;
import java.util.TreeSet;

/**
 * Each sentence of the document has a test of its own, named by its promise and its words. The words
 * must stand in the document, in the promise's part or in what comes ahead of the promises, and no
 * word of the terms and the promises may be left without a test.
 */
public final class SentencesTest {
    private static final int PROMISES = 43;
    private static final Due due = new Due();

    public static void main(String[] args) throws Exception {
        Sentences sentences = Sentences.whole();
        for (Sentences.Sentence one : sentences.all) {
            due.is(one.name() + ": wrong answers", one.wrong(false), 0);
        }
        due.part("the document");
        allWordsAreTested(sentences, Files.readString(Path.of("../shared/DOC.md")).replaceAll("\\s+", " "));
        due.end("SentencesTest, " + sentences.all.size() + " sentences");
    }

    private static void allWordsAreTested(Sentences sentences, String text) {
        boolean[] tested = new boolean[text.length()];
        Set<Integer> promises = new TreeSet<>();
        for (Sentences.Sentence one : sentences.all) {
            int[] part = partOf(one.promise, text);
            boolean found = mark(one.words, text, part[0], part[1], tested)
                    || mark(one.words, text, 0, partOf(1, text)[0], tested);
            due.isTrue(one.name() + " stands there", found);
            promises.add(one.promise);
        }
        due.is("promises with a test", promises.size(), PROMISES);
        untested(text, tested, text.indexOf("I. ENTRIES"), partOf(1, text)[0]);
        for (int promise = 1; promise <= PROMISES; promise++) {
            int[] part = partOf(promise, text);
            // The heading and the face of the call come ahead of the promise.
            untested(text, tested, text.indexOf("`: ", part[0]) + 3, part[1]);
        }
    }

    private static int[] partOf(int promise, String text) {
        int from = text.indexOf("## Promise " + promise + ":");
        int to = text.indexOf("## ", from + 3);
        return new int[] {from, to};
    }

    private static boolean mark(String words, String text, int from, int to, boolean[] tested) {
        boolean found = false;
        int at = text.indexOf(words, from);
        while (at >= 0 && at + words.length() <= to) {
            Arrays.fill(tested, at, at + words.length(), true);
            found = true;
            at = text.indexOf(words, at + 1);
        }
        return found;
    }

    private static void untested(String text, boolean[] tested, int from, int to) {
        StringBuilder rest = new StringBuilder();
        for (int i = from; i < to; i++) {
            rest.append(tested[i] ? ' ' : text.charAt(i));
        }
        String words = rest.toString().replaceAll("```(text)?|\\b(I|II|III)\\.", "");
        String left = words.replaceAll("[^A-Za-z0-9]+", " ").strip();
        due.isTrue("nothing is untested but '" + left + "'", left.isEmpty());
    }
}
