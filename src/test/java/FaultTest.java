/** Promises 3 and 4: each fault of a text, at its letter. */
public final class FaultTest {
    public static void main(String[] args) {
        misplaced();
        outOfBounds();
        tooMany();
        taken();
        whole();
        Check.end();
    }

    private static void fault(String text, int number, int letter) {
        StairPortraits s = new StairPortraits();
        Check.feed(s, text);
        Check.due("house() of '" + text + "'", s.house(), -10 - number);
        Check.due("fault() of '" + text + "'", s.fault(), letter);
    }

    private static void good(String text, int pictures) {
        StairPortraits s = new StairPortraits();
        Check.feed(s, text);
        Check.due("house() of '" + text + "'", s.house(), pictures);
        Check.due("fault() of '" + text + "'", s.fault(), Check.NONE);
    }

    private static void misplaced() {
        fault("p0 0 0 0;", 1, 0);
        fault(" d0 0;", 1, 1);
        fault("x", 1, 0);
        fault("W1 1;", 1, 0);
        fault("w", 1, 1);
        fault("w  ", 1, 3);
        fault("w1", 1, 2);
        fault("w1 1", 1, 4);
        fault("w1 1  ", 1, 6);
        fault("w1;", 1, 2);
        fault("w;1 1", 1, 1);
        fault("w1 1 1;", 1, 5);
        fault("w1 1 9999;", 1, 5);
        fault("w1 1;;", 1, 5);
        fault("w1 1;5", 1, 5);
        fault("w1 1;q", 1, 5);
        fault("w-1 1;", 1, 1);
        fault("w1,1;", 1, 2);
        fault("w1\t1;", 1, 2);
        fault("ww1 1;", 1, 1);
        fault("w2 2;p0 0 0;", 1, 11);
        fault("w2 2;p0 0 0 0", 1, 13);
        fault("w2 2;d0 0 0;", 1, 10);
        fault("w2 2;d0 0;e0 0;", 1, 14);
        fault("w2 2;p0 0 0 0;s0;", 1, 16);
    }

    private static void outOfBounds() {
        fault("w0 1;", 2, 1);
        fault("w8 1;", 2, 1);
        fault("w1 8;", 2, 3);
        fault("w1 0x", 2, 3);
        fault("w11;", 2, 1);
        fault("w0001 1;", 2, 1);
        fault("w 99999999999999999999 1;", 2, 2);
        fault("w4294967297 1;", 2, 1);
        fault("w2 2;p6 0 0 0;", 2, 6);
        fault("w2 2;p0 2 0 0;", 2, 8);
        fault("w2 2;p0 1 2 0;", 2, 10);
        fault("w2 2;p0 1 1 4;", 2, 12);
        fault("w3 2;d2 2;", 2, 8);
        fault("w3 2;d3 0;", 2, 6);
        fault("w2 2;e0 0 0;", 2, 8);
        fault("w2 2;d0 0;e31 0 0;", 2, 11);
        fault("w2 2;d0 0;e30 1 0;", 2, 14);
        fault("w2 2;d0 0;e30 0 8;", 2, 16);
        fault("w2 2;s0 0;", 2, 6);
        fault("w2 2;p0 0 0 0;s1 0;", 2, 15);
        fault("w2 2;p0 0 0 0;s0 8;", 2, 17);
    }

    private static void tooMany() {
        fault("w1 1;w", 3, 5);
        fault("w1 1; w1 1;", 3, 6);
        String eight = "p0 0 0 0;p0 1 0 0;p0 2 0 0;p0 3 0 0;p0 0 1 0;p0 1 1 0;p0 2 1 0;p0 3 1 0;";
        fault("w7 7;" + eight + "p", 3, 5 + 72);
        String four = "d0 0;d1 0;d2 0;d3 0;";
        fault("w7 7;" + four + "d4 0;", 3, 25);
        fault("w7 7;d0 0;" + "e0 0 0;".repeat(8) + "e", 3, 66);
        fault("w1 1;p0 0 0 0;s0 0;s0 1;s0 2;s0 3;s0 4;s0 5;s0 6;s0 7;s0 0;", 3, 14 + 40);
    }

    private static void taken() {
        fault("w2 2;p0 0 0 0;d0 0;", 4, 17);
        fault("w2 2;d1 1;d1 1;", 4, 13);
        fault("w2 2;d1 0;p0 1 0 9;", 4, 15);
        fault("w2 2;p0 1 0 0;p0 1 0", 4, 19);
        fault("w2 2;p3 0 0 0;s0 9;", 4, 15);
        fault("w2 2;p5 0 0 0;s0 0;", 4, 15);
        fault("w2 2;p0 0 0 0;s0 3;s0 3;", 4, 22);
    }

    private static void whole() {
        good("w7 7;", 0);
        good("w1 1;p5 0 0 3;", 1);
        good("w7 7;d0 0;d1 0;d2 0;d6 6;p0 3 0 0;p1 4 0 0;p2 0 1 0;p3 1 1 0;p4 2 1 0;p5 3 1 0;p0 4 1 3;p0 6 5 0;"
            + "e30 3 7;" + "e0 0 0;".repeat(7) + "s0 0;s1 0;s2 1;s4 0;s6 0;s7 7;s0 1;s0 2;", 8);
        StringBuilder padded = new StringBuilder("w1 1;");
        while (padded.length() < 240) {
            padded.append(' ');
        }
        good(padded.toString(), 0);
    }
}
