import java.io.IOException;
import java.util.Set;
import java.util.TreeSet;
import java.util.function.IntUnaryOperator;

/** Answers, each under the sentence of the document that asks for it. */
final class Edges {
    static final int NONE = QuotaParish.NONE;
    static final int MIN = Integer.MIN_VALUE;
    static final int MAX = Integer.MAX_VALUE;
    /** Numbers of texts that are not there, where one is told of a sort. */
    static final int[] NO_TEXT = {-1, 1, 2, -2, MIN, MAX};

    private final Checks checks = new Checks("EdgesTest");
    private final Doc doc = new Doc();
    private String sentence = "";
    private final Set<String> sentences = new TreeSet<>();
    private int answers = 1;

    Edges() throws IOException {
    }

    /** What follows holds the program to these words. */
    void says(int section, String words) {
        lookAtAnswers();
        sentence = "\"" + words + "\"";
        sentences.add(section + sentence);
        answers = 0;
        if (doc.isThere()) {
            checks.due("stands in section " + section + " of the document: " + sentence, doc.quote(section, words), true);
        }
    }

    private void lookAtAnswers() {
        checks.due("has a test of its own: " + sentence, answers > 0, true);
    }

    void due(String call, int got, int want) {
        answers++;
        checks.due(sentence + ": " + call, got, want);
    }

    void due(String call, boolean got, boolean want) {
        due(call, got ? 1 : 0, want ? 1 : 0);
    }

    /** One answer for each of several arguments. */
    void each(String call, IntUnaryOperator asked, int want, int... arguments) {
        for (int argument : arguments) {
            due(call + " of " + argument, asked.applyAsInt(argument), want);
        }
    }

    /** Arguments, each with the answer that is due. */
    void rows(String call, IntUnaryOperator asked, int[][] rows) {
        for (int[] row : rows) {
            due(call + " of " + row[0], asked.applyAsInt(row[0]), row[1]);
        }
    }

    /** Answers for the arguments from a first one on. */
    void run(String call, IntUnaryOperator asked, int first, int... wants) {
        for (int i = 0; i < wants.length; i++) {
            due(call + " of " + (first + i), asked.applyAsInt(first + i), wants[i]);
        }
    }

    /** A text that is read on a new object: its FAULT and the place (0, NONE: none). */
    void text(int sort, String text, int fault, int place) {
        QuotaParish x = new QuotaParish();
        String name = text.length() > 60 ? ".. " + text.substring(text.length() - 50) : text;
        due("text [" + name + "]", Checks.tell(x, sort, NONE, text), fault == 0 ? 0 : NONE);
        due("fault(0) of [" + name + "]", x.fault(0), fault);
        due("fault(1) of [" + name + "]", x.fault(1), place);
        due("count behind [" + name + "]", x.count(sort), fault == 0 ? 1 : 0);
    }

    void sound(int sort, String... texts) {
        for (String text : texts) {
            text(sort, text, 0, NONE);
        }
    }

    /** Where the document is at hand: each of its words stands in a sentence that has a test. */
    void finish() {
        lookAtAnswers();
        if (doc.isThere()) {
            for (String words : doc.unquoted()) {
                checks.due("no test quotes, " + words, false, true);
            }
        } else {
            System.out.println("EdgesTest: ../shared/DOC.md is not there, the quotations were not looked up");
        }
        System.out.println("EdgesTest: " + sentences.size() + " sentences quoted");
        checks.finish();
    }
}
