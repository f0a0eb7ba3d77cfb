/** What the tests share: objects made from a text, and a count of the answers that are not due. */
final class Check {
    static final int NONE = StairPortraits.NONE;
    static final int UNKNOWN = StairPortraits.UNKNOWN;
    static final int OUTSIDE = StairPortraits.OUTSIDE;
    static final int NOT = StairPortraits.NOT;
    static final int FULL = StairPortraits.FULL;

    private static int wrong = 0;

    private Check() {
    }

    static void due(String call, long got, long want) {
        if (got != want) {
            wrong++;
            System.out.println(call + " answered " + got + ", due is " + want);
        }
    }

    static void due(String what, boolean holds) {
        if (!holds) {
            wrong++;
            System.out.println(what + " does not hold");
        }
    }

    static void feed(StairPortraits stairs, String text) {
        for (int k = 0; k < text.length(); k++) {
            stairs.feed(text.charAt(k));
        }
    }

    /** An object whose house is told by a text without a fault. */
    static StairPortraits stairs(String text) {
        StairPortraits stairs = new StairPortraits();
        feed(stairs, text);
        due("house() of " + text, stairs.house() >= 0);
        return stairs;
    }

    static void end() {
        System.out.println(wrong == 0 ? "all answers are as due" : wrong + " answers are not as due");
        if (wrong != 0) {
            System.exit(1);
        }
    }
}
