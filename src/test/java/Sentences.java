import java.util.ArrayList;
import java.util.List;
import java.util.function.Consumer;

/** The document, sentence by sentence, each with a test of its own that names its promise. */
public final class Sentences {
    final List<Sentence> all = new ArrayList<>();

    /** Words of the document as they stand there, the test of them, and ways to break them. */
    static final class Sentence {
        final int promise;
        final String words;
        final Consumer<Due> test;
        final List<String[]> breaks = new ArrayList<>();

        Sentence(int promise, String words, Consumer<Due> test) {
            this.promise = promise;
            this.words = words;
            this.test = test;
        }

        /** Edits of the class, what stands there and what would stand there by turns: the test must fail by them. */
        Sentence broken(String... edits) {
            breaks.add(edits);
            return this;
        }

        String name() {
            return "promise " + promise + ", '" + words + "'";
        }

        /** What the machine throws counts as one wrong answer. */
        int wrong(boolean quiet) {
            Due due = new Due(quiet);
            due.part(name());
            try {
                test.accept(due);
            } catch (RuntimeException e) {
                due.isTrue("no " + e, false);
            }
            return due.wrong() + (due.asked() == 0 ? 1 : 0);
        }
    }

    Sentence of(int promise, String words, Consumer<Due> test) {
        Sentence one = new Sentence(promise, words, test);
        all.add(one);
        return one;
    }

    static Sentences whole() {
        Sentences s = new Sentences();
        EntrySentences.tell(s);
        EvictSentences.tell(s);
        EventSentences.tell(s);
        DoingSentences.tell(s);
        StandingSentences.tell(s);
        WouldBeSentences.tell(s);
        ListenerSentences.tell(s);
        AnewSentences.tell(s);
        return s;
    }

    /** For a run with a class that is broken: how many answers of one test are wrong. */
    public static int wrongOf(int number) {
        return whole().all.get(number).wrong(true);
    }
}
