/** Promises 12, 13, 28: hours, hours by draws, the seed. */
public final class HourTest {
    public static void main(String[] args) {
        hour();
        kindsLearn();
        turnedToWall();
        refusals();
        fullOfHours();
        drift();
        driftOfNobody();
        seed();
        Check.end();
    }

    private static void hour() {
        StairPortraits s = Check.stairs("w6 1;d0 0;p0 1 0 2;p0 2 0 2;p0 3 0 2;e0 0 1;e2 0 3;");
        Check.due("hour(1)", s.hour(1), 1);
        Check.due("at hour 0", s.picture(0, 4), 2);
        Check.due("not yet", s.picture(1, 4), 0);
        Check.due("hour(2)", s.hour(2), 3);
        Check.due("who sees the door", s.picture(0, 4), 10);
        Check.due("one on", s.picture(1, 4), 2);
        Check.due("two on", s.picture(2, 4), 2);
        Check.due("hour(60)", s.hour(60), 63);
        Check.due("all of it", s.picture(2, 4), 10);
        StairPortraits swap = Check.stairs("w2 1;p0 0 0 0;p0 1 0 2;s0 1;s1 2;");
        swap.hour(1);
        Check.due("all at once", swap.picture(0, 4), 6);
        Check.due("all at once, the other one", swap.picture(1, 4), 6);
    }

    private static void kindsLearn() {
        String row = "w7 1;d0 0;p0 1 0 2;%s;p0 3 0 2;e0 0 1;e0 0 2;";
        int[] middle = {6, 0, 4, 0, 6, 0};
        int[] last = {6, 0, 4, 0, 0, 0};
        for (int kind = 0; kind < 6; kind++) {
            StairPortraits s = Check.stairs(String.format(row, "p" + kind + " 2 0 2"));
            s.hour(5);
            Check.due("what kind " + kind + " learns", s.picture(1, 4), middle[kind]);
            Check.due("what kind " + kind + " tells on", s.picture(2, 4), last[kind]);
        }
        StairPortraits profile = Check.stairs("w2 1;d0 0;p2 1 0 2;e0 0 1;e0 0 2;s0 3;");
        profile.hour(1);
        Check.due("a profile by the door", profile.picture(0, 4), 12);
        StairPortraits fake = Check.stairs("w3 1;p4 0 0 0;p0 1 0 2;s0 3;");
        fake.hour(3);
        Check.due("a fake tells nothing of the first, either", fake.picture(1, 4), 0);
    }

    private static void turnedToWall() {
        StairPortraits s = Check.stairs("w4 1;d0 0;p0 1 0 2;p0 2 0 2;e0 0 1;e3 0 2;s0 5;");
        s.wall(0, true);
        s.hour(2);
        Check.due("learns nothing", s.picture(0, 4), 32);
        Check.due("is looked at by nobody", s.picture(1, 4), 0);
        s.wall(0, false);
        s.hour(2);
        Check.due("learns again", s.picture(0, 4), 36);
        Check.due("is looked at again", s.picture(1, 4), 32);
    }

    private static void refusals() {
        StairPortraits s = Check.stairs("w1 1;");
        Check.due("hour(0)", s.hour(0), Check.OUTSIDE);
        Check.due("hour(61)", s.hour(61), Check.OUTSIDE);
        Check.due("drift(0)", s.drift(0), Check.OUTSIDE);
        Check.due("drift(61)", s.drift(61), Check.OUTSIDE);
        Check.due("hour(60) of an empty wall", s.hour(60), 60);
        StairPortraits none = new StairPortraits();
        Check.due("drift(1) without a wall", none.drift(1), Check.NOT);
        Check.due("drift(61) without a wall", none.drift(61), Check.OUTSIDE);
    }

    /** More calls than are promised: the document's bound is out of reach of 512. */
    private static void fullOfHours() {
        StairPortraits s = Check.stairs("w1 1;p0 0 0 0;");
        for (int k = 0; k < 1500; k++) {
            s.hour(60);
        }
        Check.due("90000 hours", s.told(6), 90000);
        Check.due("one more", s.drift(1), 90001);
        Check.due("hour above 90000", s.hour(1), Check.FULL);
        Check.due("drift above 90000", s.drift(1), Check.FULL);
        Check.due("hour(61) above 90000", s.hour(61), Check.OUTSIDE);
        Check.due("refused", s.told(6), 90001);
    }

    /** The draws, gone through once more beside the class. */
    private static void drift() {
        for (int first = 0; first < 40; first++) {
            StairPortraits s = Check.stairs("w7 1;p0 0 0 0;p5 1 0 1;p1 2 0 2;p0 3 0 3;");
            s.wall(3, true);
            s.seed(first * 50000000);
            Check.due("drift(60)", s.drift(60), 60);
            int[] way = {0, 1, 2, 3};
            long seed = first * 50000000L;
            for (int k = 0; k < 60; k++) {
                seed = (seed * 1103515245L + 12345L) % 2147483648L;
                if (seed / 65536 % 4 == 0) {
                    seed = (seed * 1103515245L + 12345L) % 2147483648L;
                    int p = (int) (seed / 65536 % 4);
                    way[p] = (way[p] + 1) % 4;
                }
            }
            for (int p = 0; p < 4; p++) {
                Check.due("way of " + p + " by seed " + first, s.picture(p, 3), way[p]);
            }
            Check.due("the seed behind it", s.seed(0), seed);
        }
    }

    private static void driftOfNobody() {
        StairPortraits s = Check.stairs("w1 1;");
        s.drift(60);
        long seed = 0;
        for (int k = 0; k < 60; k++) {
            seed = (seed * 1103515245L + 12345L) % 2147483648L;
        }
        Check.due("one draw an hour without pictures", s.seed(1), seed);
    }

    private static void seed() {
        StairPortraits s = new StairPortraits();
        Check.due("seed(2147483647)", s.seed(2147483647), 0);
        Check.due("seed(-1)", s.seed(-1), Check.OUTSIDE);
        Check.due("seed(0)", s.seed(0), 2147483647);
        Check.due("seed(0) again", s.seed(0), 0);
    }
}
