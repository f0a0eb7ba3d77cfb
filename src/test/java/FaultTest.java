/** Promises 3 and 4: each fault of a text, at its letter. */
public final class FaultTest {
    public static void main(String[] args) {
        misplaced();
        outOfBounds();
        tooMany();
        taken();
        whole();
        Check.end();
    }

    private static void misplaced() {
        Check.fault("p0 0 0 0;", 1, 0);
        Check.fault(" d0 0;", 1, 1);
        Check.fault("x", 1, 0);
        Check.fault("W1 1;", 1, 0);
        Check.fault("w", 1, 1);
        Check.fault("w  ", 1, 3);
        Check.fault("w1", 1, 2);
        Check.fault("w1 1", 1, 4);
        Check.fault("w1 1  ", 1, 6);
        Check.fault("w1;", 1, 2);
        Check.fault("w;1 1", 1, 1);
        Check.fault("w1 1 1;", 1, 5);
        Check.fault("w1 1 9999;", 1, 5);
        Check.fault("w1 1;;", 1, 5);
        Check.fault("w1 1;5", 1, 5);
        Check.fault("w1 1;q", 1, 5);
        Check.fault("w-1 1;", 1, 1);
        Check.fault("w1,1;", 1, 2);
        Check.fault("w1\t1;", 1, 2);
        Check.fault("ww1 1;", 1, 1);
        Check.fault("w2 2;p0 0 0;", 1, 11);
        Check.fault("w2 2;p0 0 0 0", 1, 13);
        Check.fault("w2 2;d0 0 0;", 1, 10);
        Check.fault("w2 2;d0 0;e0 0;", 1, 14);
        Check.fault("w2 2;p0 0 0 0;s0;", 1, 16);
    }

    private static void outOfBounds() {
        Check.fault("w0 1;", 2, 1);
        Check.fault("w8 1;", 2, 1);
        Check.fault("w1 8;", 2, 3);
        Check.fault("w1 0x", 2, 3);
        Check.fault("w11;", 2, 1);
        Check.fault("w0001 1;", 2, 1);
        Check.fault("w 99999999999999999999 1;", 2, 2);
        Check.fault("w4294967297 1;", 2, 1);
        Check.fault("w2 2;p6 0 0 0;", 2, 6);
        Check.fault("w2 2;p0 2 0 0;", 2, 8);
        Check.fault("w2 2;p0 1 2 0;", 2, 10);
        Check.fault("w2 2;p0 1 1 4;", 2, 12);
        Check.fault("w3 2;d2 2;", 2, 8);
        Check.fault("w3 2;d3 0;", 2, 6);
        Check.fault("w2 2;e0 0 0;", 2, 8);
        Check.fault("w2 2;d0 0;e31 0 0;", 2, 11);
        Check.fault("w2 2;d0 0;e30 1 0;", 2, 14);
        Check.fault("w2 2;d0 0;e30 0 8;", 2, 16);
        Check.fault("w2 2;s0 0;", 2, 6);
        Check.fault("w2 2;p0 0 0 0;s1 0;", 2, 15);
        Check.fault("w2 2;p0 0 0 0;s0 8;", 2, 17);
    }

    private static void tooMany() {
        Check.fault("w1 1;w", 3, 5);
        Check.fault("w1 1; w1 1;", 3, 6);
        String eight = "p0 0 0 0;p0 1 0 0;p0 2 0 0;p0 3 0 0;p0 0 1 0;p0 1 1 0;p0 2 1 0;p0 3 1 0;";
        Check.fault("w7 7;" + eight + "p", 3, 5 + 72);
        String four = "d0 0;d1 0;d2 0;d3 0;";
        Check.fault("w7 7;" + four + "d4 0;", 3, 25);
        Check.fault("w7 7;d0 0;" + "e0 0 0;".repeat(8) + "e", 3, 66);
        Check.fault("w1 1;p0 0 0 0;s0 0;s0 1;s0 2;s0 3;s0 4;s0 5;s0 6;s0 7;s0 0;", 3, 14 + 40);
    }

    private static void taken() {
        Check.fault("w2 2;p0 0 0 0;d0 0;", 4, 17);
        Check.fault("w2 2;d1 1;d1 1;", 4, 13);
        Check.fault("w2 2;d1 0;p0 1 0 9;", 4, 15);
        Check.fault("w2 2;p0 1 0 0;p0 1 0", 4, 19);
        Check.fault("w2 2;p3 0 0 0;s0 9;", 4, 15);
        Check.fault("w2 2;p5 0 0 0;s0 0;", 4, 15);
        Check.fault("w2 2;p0 0 0 0;s0 3;s0 3;", 4, 22);
    }

    private static void whole() {
        Check.good("w7 7;", 0);
        Check.good("w1 1;p5 0 0 3;", 1);
        Check.good("w7 7;d0 0;d1 0;d2 0;d6 6;p0 3 0 0;p1 4 0 0;p2 0 1 0;p3 1 1 0;p4 2 1 0;p5 3 1 0;p0 4 1 3;p0 6 5 0;"
            + "e30 3 7;" + "e0 0 0;".repeat(7) + "s0 0;s1 0;s2 1;s4 0;s6 0;s7 7;s0 1;s0 2;", 8);
        StringBuilder padded = new StringBuilder("w1 1;");
        while (padded.length() < 240) {
            padded.append(' ');
        }
        Check.good(padded.toString(), 0);
    }
}
