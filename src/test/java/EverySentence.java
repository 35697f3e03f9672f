import java.lang.reflect.Method;
import java.util.ArrayList;
import java.util.List;

/**
 * Asks of the document's sentences whether a test of the edges holds the program to each: those of a promise by a test
 * named by that promise, those of the terms by any. And of the tests whether the document says what they quote.
 */
public final class EverySentence {
    private static final int PROMISES = 26;
    private static final Class<?>[] TESTS = {EdgesOfPlayers.class, EdgesOfTheQueue.class, EdgesOfMatches.class,
        EdgesOfWhatIsTold.class};

    private static boolean isQuoted(String sentence, List<String> quotes) {
        for (String quote : quotes) {
            if (sentence.contains(quote) || quote.contains(sentence)) {
                return true;
            }
        }
        return false;
    }

    private static boolean isSaid(String quote, List<String> sentences) {
        return sentences.stream().anyMatch(sentence -> sentence.contains(quote));
    }

    private static void askOfSentences(String where, List<String> sentences, List<String> quotes) {
        if (sentences.isEmpty()) {
            Edges.say("the document has no " + where);
        }
        for (String sentence : sentences) {
            if (!isQuoted(sentence, quotes)) {
                Edges.say("no test of " + where + " for: " + sentence);
            }
        }
    }

    private static void askOfTest(Method test, List<String> promise, List<String> terms) {
        if (Edges.quotes(test).length == 0) {
            Edges.say(test.getName() + " doesn't say which words it is for");
        }
        for (String quote : Edges.quotes(test)) {
            if (!isSaid(quote, promise) && !isSaid(quote, terms)) {
                Edges.say(test.getName() + " is for words that the document doesn't say: " + quote);
            }
        }
    }

    public static void main(String[] args) throws Exception {
        Document document = new Document();
        List<String> terms = document.ofTerms();
        List<String> all = new ArrayList<>();
        int sentences = terms.size();
        for (int number = 1; number <= PROMISES; number++) {
            List<String> promise = document.ofPromise(number);
            List<String> quotes = new ArrayList<>();
            for (Class<?> tests : TESTS) {
                for (Method test : Edges.testsOf(tests)) {
                    if (Edges.promiseOf(test) == number) {
                        askOfTest(test, promise, terms);
                        quotes.addAll(List.of(Edges.quotes(test)));
                    }
                }
            }
            askOfSentences("promise " + number, promise, quotes);
            all.addAll(quotes);
            sentences += promise.size();
        }
        askOfSentences("the terms", terms, all);
        System.out.println(sentences + " sentences were asked for their tests");
        Edges.finish();
    }
}
