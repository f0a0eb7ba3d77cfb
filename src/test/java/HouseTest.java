/** Promises 1 to 8: a new object, feed, house, fault, told, picture, on, coming. */
public final class HouseTest {
    private static final String HALL = "w5 3;d0 0;d4 2;p0 3 0 2;p1 2 1 3;p3 0 2 1;e1 0 2;e30 1 5;e1 0 2;s0 1;s1 7;";

    public static void main(String[] args) {
        newObject();
        feed();
        house();
        houseMakesAllNew();
        faultLeavesAll();
        told();
        picture();
        on();
        coming();
        Check.end();
    }

    private static void newObject() {
        StairPortraits s = new StairPortraits();
        for (int what = 0; what <= 10; what++) {
            Check.due("told(" + what + ") of a new one", s.told(what), 0);
        }
        Check.due("fault() of a new one", s.fault(), Check.NONE);
        Check.due("picture of a new one", s.picture(0, 0), Check.UNKNOWN);
        Check.due("on of a new one", s.on(0, 0), Check.UNKNOWN);
        Check.due("coming of a new one", s.coming(0, 0), Check.NONE);
        Check.due("seed of a new one", s.seed(7), 0);
        Check.due("goBack of a new one", s.goBack(0), Check.NOT);
        Check.due("hour of a new one", s.hour(1), Check.NOT);
        Check.due("hour(0) of a new one", s.hour(0), Check.OUTSIDE);
        Check.due("keep of a new one", s.keep(1), 1);
        Check.due("goBack to no wall", s.goBack(1), 1);
    }

    private static void feed() {
        StairPortraits s = new StairPortraits();
        Check.due("feed(-1)", s.feed(-1), Check.OUTSIDE);
        Check.due("feed(256)", s.feed(256), Check.OUTSIDE);
        Check.due("feed(0)", s.feed(0), 1);
        Check.due("feed(255)", s.feed(255), 2);
        for (int k = 3; k <= 240; k++) {
            Check.due("feed " + k, s.feed(' '), k);
        }
        Check.due("feed of a 241st", s.feed(' '), Check.FULL);
        Check.due("feed of a 241st that is none", s.feed(256), Check.OUTSIDE);
        Check.due("told(5)", s.told(5), 240);
        Check.due("house()", s.house(), -11);
        Check.due("feed behind house()", s.feed('w'), 1);
    }

    private static void house() {
        StairPortraits s = new StairPortraits();
        Check.due("house() of an empty text", s.house(), 0);
        Check.feed(s, "   ");
        Check.due("house() of blanks", s.house(), 0);
        Check.feed(s, "  w 5 3 ; d0 0;p 0 003 0 2  ;e1 0 2;s0 1;  ");
        Check.due("house() with blanks", s.house(), 1);
        Check.due("fault()", s.fault(), Check.NONE);
        Check.due("told(5) behind house()", s.told(5), 0);
        Check.due("X of three figures", s.picture(0, 1), 3);
        Check.due("what it knows at first", s.picture(0, 4), 2);
        Check.feed(s, HALL);
        Check.due("house() of the hall", s.house(), 3);
        Check.due("house() of an empty text", s.house(), 0);
        Check.due("no wall again", s.told(0), 0);
        Check.due("no door again", s.told(3), 0);
        Check.due("no coming again", s.told(4), 0);
        Check.due("no picture again", s.picture(0, 0), Check.UNKNOWN);
        Check.due("no hours without a wall", s.hour(1), Check.NOT);
    }

    private static void houseMakesAllNew() {
        StairPortraits s = Check.stairs(HALL);
        s.wall(1, true);
        s.hour(5);
        s.ask(0, 1, true);
        s.write(0, 3);
        s.keep(0);
        s.seed(99);
        Check.feed(s, HALL);
        Check.due("house() again", s.house(), 3);
        Check.due("hours of the new house", s.told(6), 0);
        Check.due("who is turned to the wall there", s.told(7), 0);
        Check.due("what is known there", s.told(8), 130);
        Check.due("what was asked there", s.told(9), 0);
        Check.due("the book there", s.told(10), 0);
        Check.due("no image there", s.goBack(0), Check.NOT);
        Check.due("the seed stays", s.seed(0), 99);
    }

    private static void faultLeavesAll() {
        StairPortraits s = Check.stairs(HALL);
        s.hour(2);
        s.wall(1, true);
        s.ask(0, 1, true);
        s.write(0, 3);
        s.keep(0);
        Check.feed(s, "w2 2;p0 0 0 0;q");
        Check.due("house() with a fault", s.house(), -11);
        Check.due("fault()", s.fault(), 14);
        Check.due("the text is empty", s.told(5), 0);
        Check.due("the old width", s.told(0), 5);
        Check.due("the old pictures", s.told(2), 3);
        Check.due("the old doors", s.told(3), 2);
        Check.due("the old hours", s.told(6), 2);
        Check.due("the old wall", s.told(7), 2);
        Check.due("the old asked", s.told(9), 1);
        Check.due("the old book", s.told(10), 1);
        Check.due("the old looks", s.picture(0, 5), 10);
        Check.due("the old image", s.goBack(0), 1);
        Check.due("house() without one", s.house(), 0);
        Check.due("fault() of the latest", s.fault(), Check.NONE);
    }

    private static void told() {
        StairPortraits s = Check.stairs(HALL);
        Check.feed(s, "w1");
        s.wall(0, true);
        s.wall(2, true);
        s.hour(3);
        s.ask(1, 1, false);
        s.write(0, 2);
        s.write(0, 2);
        int[] want = {5, 3, 3, 2, 3, 2, 3, 5, 130, 1, 2};
        for (int what = 0; what < want.length; what++) {
            Check.due("told(" + what + ")", s.told(what), want[what]);
        }
        Check.due("told(11)", s.told(11), Check.OUTSIDE);
        Check.due("told(-1)", s.told(-1), Check.OUTSIDE);
    }

    private static void picture() {
        StairPortraits s = Check.stairs(HALL);
        int[][] want = {{0, 3, 0, 2, 2, 10}, {1, 2, 1, 3, 128, Check.NONE}, {3, 0, 2, 1, 0, Check.NONE}};
        for (int p = 0; p < 3; p++) {
            for (int what = 0; what < 6; what++) {
                Check.due("picture(" + p + ", " + what + ")", s.picture(p, what), want[p][what]);
            }
        }
        Check.due("picture(3, 0)", s.picture(3, 0), Check.UNKNOWN);
        Check.due("picture(-1, 9)", s.picture(-1, 9), Check.UNKNOWN);
        Check.due("picture(0, 6)", s.picture(0, 6), Check.OUTSIDE);
        Check.due("picture(0, -1)", s.picture(0, -1), Check.OUTSIDE);
    }

    private static void on() {
        StairPortraits s = Check.stairs(HALL);
        Check.due("on a picture", s.on(3, 0), 0);
        Check.due("on the last picture", s.on(0, 2), 2);
        Check.due("on a door", s.on(0, 0), 10);
        Check.due("on the last door", s.on(4, 2), 11);
        Check.due("on a free cell", s.on(4, 0), Check.NONE);
        Check.due("on(5, 0)", s.on(5, 0), Check.UNKNOWN);
        Check.due("on(0, 3)", s.on(0, 3), Check.UNKNOWN);
        Check.due("on(-1, 0)", s.on(-1, 0), Check.UNKNOWN);
        Check.due("on(0, -1)", s.on(0, -1), Check.UNKNOWN);
    }

    private static void coming() {
        StairPortraits s = Check.stairs(HALL);
        int[][] want = {{1, 0, 2}, {30, 1, 5}, {1, 0, 2}};
        for (int i = 0; i < 3; i++) {
            for (int what = 0; what < 3; what++) {
                Check.due("coming(" + i + ", " + what + ")", s.coming(i, what), want[i][what]);
            }
        }
        Check.due("coming(3, 0)", s.coming(3, 0), Check.NONE);
        Check.due("coming(-1, 0)", s.coming(-1, 0), Check.NONE);
        Check.due("coming(3, 3)", s.coming(3, 3), Check.OUTSIDE);
        Check.due("coming(0, -1)", s.coming(0, -1), Check.OUTSIDE);
    }
}
