import java.io.IOException;
import java.nio.file.Files;
import java.nio.file.Path;
import java.util.Arrays;
import java.util.function.IntToLongFunction;

/**
 * Sentences of the document, each followed by the calls that show that it holds. A sentence that does not
 * stand in the document in these words, or behind which nothing is asked, is wrong itself.
 */
final class Sentences {
    static final int BAD = -1, NOT = -2, FULL = -3, STATE = -5;
    static final int MISSING = -11, OTHER_KIND = -12, NO_PLACE = -13, BELOW_0 = -14;
    static final int LEAST = Integer.MIN_VALUE, MOST = Integer.MAX_VALUE;

    private final String document;
    private String sentence = "";
    private int sentences = 0;
    private int askedOfThis = 1;
    private int asked = 0;
    private int wrong = 0;

    Sentences() throws IOException {
        document = plain(Files.readString(Path.of("../shared/DOC.md")));
    }

    private static String plain(String text) {
        return text.replaceAll("\\s+", " ");
    }

    void says(String told) {
        endOfSentence();
        sentence = told;
        sentences++;
        askedOfThis = 0;
        if (!document.contains(plain(told))) {
            wrong++;
            System.out.println("not in the document: " + told);
        }
    }

    private void endOfSentence() {
        if (askedOfThis == 0) {
            wrong++;
            System.out.println("nothing is asked of: " + sentence);
        }
    }

    void due(String call, long got, long want) {
        asked++;
        askedOfThis++;
        if (got != want) {
            wrong++;
            System.out.println("\"" + sentence + "\": " + call + " answered " + got + ", due is " + want);
        }
    }

    /** A call that is refused for each number below the least and above the most, and for none from one to the other. */
    void range(String call, IntToLongFunction asks, int least, int most, long refusal) {
        int[] beyond = {least - 1, most + 1, LEAST, MOST};
        for (int v : beyond) {
            due(call + " with " + v, asks.applyAsLong(v), refusal);
        }
        for (int v = least; v <= most; v++) {
            due(call + " with " + v + " is refused", asks.applyAsLong(v) == refusal ? 1 : 0, 0);
        }
    }

    void range(String call, IntToLongFunction asks, int least, int most) {
        range(call, asks, least, most, BAD);
    }

    void end() {
        endOfSentence();
        System.out.println(sentences + " sentences, " + asked + " asked, " + wrong + " wrong");
        System.exit(wrong == 0 ? 0 : 1);
    }

    /** A town with people at these places. */
    static NailedByWord town(int... places) {
        NailedByWord x = new NailedByWord();
        for (int place : places) {
            x.person(place);
        }
        return x;
    }

    static int tell(NailedByWord x, String law) {
        for (int i = 0; i < law.length(); i++) {
            x.feed(law.charAt(i));
        }
        return x.law();
    }

    static void bytes(NailedByWord x, int shelf, int... values) {
        x.row(shelf, 0, values.length);
        for (int i = 0; i < values.length; i++) {
            x.put(shelf, i, values[i]);
        }
    }

    /** A row of bytes that are all alike. */
    static void alike(NailedByWord x, int shelf, int n, int value) {
        int[] values = new int[n];
        Arrays.fill(values, value);
        bytes(x, shelf, values);
    }

    /** One at place 12 with so many promises of a weight to another one, there and always on. */
    static NailedByWord nailed(int promises, int weight) {
        NailedByWord x = town(12, 0);
        for (int i = 0; i < promises; i++) {
            x.promise(1, 100 * weight + 99);
        }
        return x;
    }
}
