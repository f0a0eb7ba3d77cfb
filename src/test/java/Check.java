import java.util.ArrayList;
import java.util.List;

/** What the tests share: objects made from a text, and a count of the answers that are not due. */
final class Check {
    static final int NONE = StairPortraits.NONE;
    static final int UNKNOWN = StairPortraits.UNKNOWN;
    static final int OUTSIDE = StairPortraits.OUTSIDE;
    static final int NOT = StairPortraits.NOT;
    static final int FULL = StairPortraits.FULL;

    /** Each a heading of the document and words that stand below it. */
    static final List<String[]> SENTENCES = new ArrayList<>();

    private static String sentence = "";
    private static int wrong = 0;

    private Check() {
    }

    /** From here on answers are due by these words of the document. */
    static void sentence(String heading, String words) {
        SENTENCES.add(new String[] {heading, words});
        sentence = heading + " (" + words + ") ";
    }

    /** From here on no sentence is tested. */
    static void endOfSentences() {
        sentence = "";
    }

    static void due(String call, long got, long want) {
        if (got != want) {
            wrong++;
            System.out.println(sentence + call + " answered " + got + ", due is " + want);
        }
    }

    static void due(String what, boolean holds) {
        if (!holds) {
            wrong++;
            System.out.println(sentence + what + " does not hold");
        }
    }

    static void feed(StairPortraits stairs, String text) {
        for (int k = 0; k < text.length(); k++) {
            stairs.feed(text.charAt(k));
        }
    }

    /** An object whose house is told by a text without a fault. */
    static StairPortraits stairs(String text) {
        StairPortraits stairs = new StairPortraits();
        feed(stairs, text);
        due("house() of " + text, stairs.house() >= 0);
        return stairs;
    }

    static void fault(String text, int number, int letter) {
        houseAnswers(text, -10 - number, letter);
    }

    static void good(String text, int pictures) {
        houseAnswers(text, pictures, NONE);
    }

    private static void houseAnswers(String text, int answer, int letter) {
        StairPortraits stairs = new StairPortraits();
        feed(stairs, text);
        due("house() of '" + text + "'", stairs.house(), answer);
        due("fault() of '" + text + "'", stairs.fault(), letter);
    }

    static void end() {
        System.out.println(wrong == 0 ? "all answers are as due" : wrong + " answers are not as due");
        if (wrong != 0) {
            System.exit(1);
        }
    }
}
