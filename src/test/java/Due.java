import java.nio.file.Files;
import java.nio.file.Path;
import java.util.ArrayList;
import java.util.List;
import java.util.function.Supplier;
import java.util.function.ToIntFunction;

/** What the tests that were worked out by hand share: answers that are due, objects, all that can be asked. */
final class Due {
    static final int BAD = -1, STATE = -2, FULL = -3, NONE = -9, NO = -1000000;
    private static final String DOCUMENT = "../shared/DOC.md";
    private static final String WORDS = wordsOfDocument();
    private static String sentence = "";
    private static int sentences = 0;
    private static int ofSentence = 0;
    private static int right = 0;
    private static int wrong = 0;

    private Due() {
    }

    private static String wordsOfDocument() {
        try {
            return Files.readString(Path.of(DOCUMENT)).replaceAll("\\s+", " ");
        } catch (java.io.IOException e) {
            return "";
        }
    }

    /** The answers that follow are due by these words of the document. */
    static void sentence(String words) {
        endSentence();
        sentence = words;
        sentences++;
        ofSentence = 0;
        if (!WORDS.isEmpty() && !WORDS.contains(words)) {
            wrong++;
            System.out.println("the document does not say: " + words);
        }
    }

    // A sentence that nothing was asked about has no test.
    private static void endSentence() {
        if (sentences > 0 && ofSentence == 0) {
            wrong++;
            System.out.println("nothing was asked about: " + sentence);
        }
    }

    static void is(String call, int got, int want) {
        ofSentence++;
        if (got == want) {
            right++;
        } else {
            wrong++;
            String by = sentence.isEmpty() ? "" : " (" + sentence + ")";
            System.out.println(call + " answered " + got + ", due is " + want + by);
        }
    }

    static void end(String test) {
        endSentence();
        String by = sentences > 0 ? " by " + sentences + " sentences" : "";
        System.out.println(test + ": " + right + " answers right" + by + ", " + wrong + " wrong");
        if (wrong != 0) {
            System.exit(1);
        }
    }

    static void types(PulseTurns x, String letters) {
        for (int i = 0; i < letters.length(); i++) {
            x.type(letters.charAt(i));
        }
    }

    /** What heard() answers to a text. */
    static int hears(String letters) {
        PulseTurns x = new PulseTurns();
        types(x, letters);
        return x.heard();
    }

    static void heard(String letters, int want) {
        is("heard() of '" + letters + "'", hears(letters), want);
    }

    /** A new object that has heard a text. */
    static PulseTurns told(String letters) {
        PulseTurns x = new PulseTurns();
        types(x, letters);
        int items = x.heard();
        if (items < 0) {
            is("heard() of '" + letters + "'", items, 0);
        }
        return x;
    }

    /** Arrivals, low, high, slack and what may be undone. */
    static void state(String where, PulseTurns x, int... want) {
        int[] asked = {0, 1, 2, 3, 7};
        for (int i = 0; i < want.length; i++) {
            is(where + ": count(" + asked[i] + ")", x.count(asked[i]), want[i]);
        }
    }

    static void times(String where, PulseTurns x, int... want) {
        is(where + ": count(0)", x.count(0), want.length);
        for (int k = 0; k < want.length; k++) {
            is(where + ": time(" + k + ")", x.time(k), want[k]);
        }
        is(where + ": time(" + want.length + ")", x.time(want.length), BAD);
    }

    private static void told(PulseTurns x, List<Integer> answers) {
        for (int what = 0; what < 8; what++) {
            answers.add(x.count(what));
        }
        for (int k = 0; k < 7; k++) {
            answers.add(x.time(k));
        }
    }

    private static void asked(PulseTurns x, List<Integer> answers) {
        for (int what = 0; what < 4; what++) {
            answers.add(x.narrowed(what));
            answers.add(x.box(0, what));
            answers.add(x.box(1, what));
        }
        for (int k = 0; k < 7; k++) {
            answers.add(x.number(0, k));
            answers.add(x.number(1, k));
            answers.add(x.held(k, 0));
            answers.add(x.counts(k, k + 1, 0, 2));
            answers.add(x.counts(0, k, 1, 1));
        }
        answers.add(x.bend(0, 1, 2, 0));
        answers.add(x.left(1500));
        answers.add(x.listen());
        answers.add(x.odds(3, 0));
    }

    /** All that an object holds: as things are now, what undo() and back() bring, what the text tells. */
    static List<Integer> all(PulseTurns x) {
        List<Integer> answers = new ArrayList<>();
        told(x, answers);
        asked(x, answers);
        for (int more = x.count(7); more > 0; more--) {
            answers.add(x.undo());
            told(x, answers);
        }
        for (int image = 0; image < 2; image++) {
            answers.add(x.back(image));
            told(x, answers);
        }
        answers.add(x.heard());
        told(x, answers);
        return answers;
    }

    /** A call answers so on an object that is made so, and changes nothing. */
    static void changesNothing(String call, Supplier<PulseTurns> made, ToIntFunction<PulseTurns> calls,
            int want) {
        PulseTurns x = made.get();
        is(call, calls.applyAsInt(x), want);
        is("nothing changes by " + call + ", 1: something did", all(x).equals(all(made.get())) ? 0 : 1, 0);
    }
}
