/** Promises 1 to 13, sentence by sentence: the house, and what is done. */
final class HouseBounds {
    private static final String HALL = "w5 3;d0 0;d4 2;p0 3 0 2;p1 2 1 3;p3 0 2 1;e1 0 2;e30 1 5;e1 0 2;s0 1;s1 7;";

    private HouseBounds() {
    }

    static void all() {
        newObject();
        feed();
        feedRefused();
        houseEmptiesText();
        houseMakesNew();
        houseOnHouse();
        houseWithFault();
        fault();
        told();
        toldRefused();
        picture();
        pictureLooksAt();
        on();
        coming();
        hang();
        turn();
        wall();
    }

    private static void newObject() {
        Check.sentence("Promise 1", "No WALL.");
        StairPortraits s = new StairPortraits();
        for (int what = 0; what <= 10; what++) {
            Check.due("told(" + what + ")", s.told(what), 0);
        }
        Check.due("no fault", s.fault(), Check.NONE);
        Check.due("no cell", s.on(0, 0), Check.UNKNOWN);
        Check.due("no picture", s.picture(0, 0), Check.UNKNOWN);
        Check.due("no coming", s.coming(0, 0), Check.NONE);
        Check.due("no hours", s.hour(1), Check.NOT);
        Check.due("no hours by draws", s.drift(1), Check.NOT);
        Check.due("nothing hidden", s.hidden(60), 0);
        Check.due("no ways", s.came(0, -1), 0);
        Check.due("nobody to ask", s.next(0), Check.NONE);
        Check.due("nothing wrong", s.judge(), Check.NONE);
        Check.due("nothing to tear", s.tear(), 0);
        Check.due("no image 0", s.goBack(0), Check.NOT);
        Check.due("no image 1", s.goBack(1), Check.NOT);
        Check.due("the seed", s.seed(1), 0);
        Check.due("an image of no wall", s.keep(0), 1);
        s.seed(2);
        Check.due("back to no wall", s.goBack(0), 1);
        Check.due("the seed of no wall", s.seed(3), 1);
        Check.due("still no wall", s.told(0), 0);
    }

    private static void feed() {
        Check.sentence("Promise 2", "One letter (a number 0 .. 255) comes behind THE TEXT: how many it has.");
        StairPortraits s = new StairPortraits();
        for (int letter = 0; letter <= 239; letter++) {
            Check.due("feed(" + letter + ")", s.feed(letter), letter + 1);
        }
        StairPortraits rest = new StairPortraits();
        for (int letter = 240; letter <= 255; letter++) {
            Check.due("feed(" + letter + ")", rest.feed(letter), letter - 239);
        }
        StairPortraits order = new StairPortraits();
        Check.feed(order, "w2 ");
        Check.feed(order, "3;");
        order.house();
        Check.due("behind, not ahead: W", order.told(0), 2);
        Check.due("behind, not ahead: H", order.told(1), 3);
    }

    private static void feedRefused() {
        Check.sentence("Promise 2", "OUTSIDE, FULL (240).");
        StairPortraits s = new StairPortraits();
        Check.due("feed(-1)", s.feed(-1), Check.OUTSIDE);
        Check.due("feed(256)", s.feed(256), Check.OUTSIDE);
        Check.feed(s, "w1 1;" + " ".repeat(234));
        Check.due("the 240th", s.feed(' '), 240);
        Check.due("a 241st", s.feed('x'), Check.FULL);
        Check.due("a 241st that is no letter", s.feed(-1), Check.OUTSIDE);
        Check.due("letters", s.told(5), 240);
        Check.due("house() of these", s.house(), 0);
        Check.due("the first of a new text", s.feed('w'), 1);
    }

    private static void houseEmptiesText() {
        Check.sentence("Promise 3", "THE TEXT (it is empty then, with a FAULT, too) becomes THE HOUSE");
        StairPortraits s = new StairPortraits();
        Check.feed(s, HALL);
        Check.due("house()", s.house(), 3);
        Check.due("letters", s.told(5), 0);
        Check.feed(s, "w1 1;q");
        Check.due("house() with a fault", s.house(), -11);
        Check.due("letters behind a fault", s.told(5), 0);
        Check.feed(s, "w1 1;");
        Check.due("no letter of the faulty text is left", s.house(), 0);
        Check.due("the new house", s.told(0), 1);
        Check.due("the empty text becomes the house", s.house(), 0);
        Check.due("no wall", s.told(0), 0);
    }

    private static void houseMakesNew() {
        Check.sentence("Promise 3", "(HOUR 0, nobody turned to the wall; nothing ASKED, no BOOK; IMAGES are gone; THE SEED stays): how many PICTURES;");
        StairPortraits s = Check.stairs(HALL);
        s.wall(1, true);
        s.hour(5);
        s.ask(0, 1, true);
        s.write(0, 3);
        s.keep(0);
        s.keep(1);
        s.seed(2147483647);
        Check.feed(s, HALL);
        Check.due("house() again", s.house(), 3);
        Check.due("hour 0", s.told(6), 0);
        Check.due("nobody turned to the wall", s.told(7), 0);
        Check.due("they know what they know at first", s.told(8), 2 + 128);
        Check.due("nothing asked", s.told(9), 0);
        Check.due("no book", s.told(10), 0);
        Check.due("nothing to tear", s.tear(), 0);
        Check.due("image 0 is gone", s.goBack(0), Check.NOT);
        Check.due("image 1 is gone", s.goBack(1), Check.NOT);
        Check.due("the seed stays", s.seed(4), 2147483647);
        s.keep(0);
        Check.due("house() of an empty text", s.house(), 0);
        Check.due("image 0 is gone with it", s.goBack(0), Check.NOT);
        Check.due("the seed stays with it", s.seed(0), 4);
        Check.good("w1 1;", 0);
        Check.good("w1 1;p0 0 0 0;", 1);
        Check.good("w7 7;p0 0 0 0;p0 1 0 0;p0 2 0 0;p0 3 0 0;p0 4 0 0;p0 5 0 0;p0 6 0 0;p0 0 1 0;", 8);
    }

    private static void houseOnHouse() {
        Check.sentence("Promise 3", "becomes THE HOUSE");
        String full = "w7 6;d0 0;d1 0;d2 0;d3 0;p0 0 1 3;p0 1 1 3;p0 2 1 3;p0 3 1 3;p0 4 1 3;p0 5 1 3;p0 6 1 3;p0 0 2 3;"
            + "e0 0 0;e0 0 0;e0 0 0;e0 0 0;e0 0 0;e0 0 0;e0 0 0;e0 0 0;s0 0;s0 1;s0 2;s0 3;s0 4;s0 5;s0 6;s0 7;";
        // Whatever two full houses have left behind, the third is told by its own text alone.
        for (String text : new String[] {"", "w1 2;", "w1 2;p0 0 0 0;d0 1;e5 0 6;s0 6;"}) {
            StairPortraits s = new StairPortraits();
            houseOf(s, full);
            houseOf(s, "w3 3;p0 0 0 0;s0 0;s0 1;s0 2;s0 3;s0 4;s0 5;s0 6;s0 7;");
            Check.feed(s, text);
            boolean all = text.length() > 5;
            Check.due("house() of '" + text + "'", s.house(), all ? 1 : 0);
            Check.due("W", s.told(0), text.isEmpty() ? 0 : 1);
            Check.due("H", s.told(1), text.isEmpty() ? 0 : 2);
            Check.due("pictures", s.told(2), all ? 1 : 0);
            Check.due("doors", s.told(3), all ? 1 : 0);
            Check.due("comings", s.told(4), all ? 1 : 0);
            Check.due("what is known", s.told(8), all ? 64 : 0);
            Check.due("what is hidden", s.hidden(60), 0);
        }
    }

    private static void houseOf(StairPortraits s, String text) {
        Check.feed(s, text);
        Check.due("house() of " + text, s.house() >= 0);
    }

    private static void houseWithFault() {
        Check.sentence("Promise 3", "-10 less the number of its FAULT (all else is as it was).");
        Check.fault("x", 1, 0);
        Check.fault("w9 9;", 2, 1);
        Check.fault("w1 1;w", 3, 5);
        Check.fault("w1 1;d0 0;d0 0;", 4, 13);
        String[] faulty = {"x", "w9 9;", "w1 1;w", "w2 2;p5 1 1 0;d0 0;e0 0 0;d0 0;", "w7 7;p0 6 6 0;s0 0;s0 0;"};
        for (String text : faulty) {
            // Both have had the fault once, and with it the text that is begun in the hall.
            Twins.nothingChanges("house() of " + text, s -> {
                s.feed('x');
                s.house();
                Check.feed(s, text);
                s.house();
            }, s -> {
                Check.feed(s, text);
                return s.house();
            });
        }
        StairPortraits s = Check.stairs(HALL);
        s.hour(2);
        s.wall(1, true);
        s.ask(0, 1, true);
        s.write(0, 3);
        s.keep(0);
        s.seed(6);
        Check.feed(s, "w2 2;p0 0 0 0;d1 1;e0 0 0;s0 0;q");
        Check.due("house()", s.house(), -11);
        int[] want = {5, 3, 3, 2, 3, 0, 2, 2, 134, 1, 1};
        for (int what = 0; what <= 10; what++) {
            Check.due("told(" + what + ") as it was", s.told(what), want[what]);
        }
        Check.due("pictures as they were", s.on(3, 0), 0);
        Check.due("doors as they were", s.on(4, 2), 11);
        Check.due("comings as they were", s.coming(1, 0), 30);
        Check.due("the seed as it was", s.seed(0), 6);
        Check.due("the image as it was", s.goBack(0), 1);
    }

    private static void fault() {
        Check.sentence("Promise 4", "The letter of the FAULT of the latest house(); NONE.");
        StairPortraits s = new StairPortraits();
        Check.due("no house yet", s.fault(), Check.NONE);
        Check.feed(s, "x");
        Check.due("no house() yet", s.fault(), Check.NONE);
        s.house();
        Check.due("letter 0", s.fault(), 0);
        Check.due("letter 0 again", s.fault(), 0);
        Check.feed(s, "w1 1" + " ".repeat(236));
        Check.due("a text behind it", s.fault(), 0);
        s.house();
        Check.due("letter 240", s.fault(), 240);
        s.house();
        Check.due("the latest had none", s.fault(), Check.NONE);
    }

    private static void told() {
        Check.sentence("Promise 5", "0 W, 1 H, 2 PICTURES, 3 DOORS, 4 COMINGS, 5 letters of THE TEXT, 6 HOURS, 7 who is turned to the wall (a SET),"
            + " 8 THINGS that somebody knows (a SET of THINGS), 9 what was ASKED, 10 entries of THE BOOK.");
        StairPortraits s = Check.stairs(HALL);
        Check.feed(s, "w1 1;");
        s.wall(0, true);
        s.wall(2, true);
        s.hour(4);
        s.ask(1, 1, false);
        s.write(0, 2);
        s.write(0, 2);
        int[] want = {5, 3, 3, 2, 3, 5, 4, 5, 130, 1, 2};
        for (int what = 0; what < want.length; what++) {
            Check.due("told(" + what + ")", s.told(what), want[what]);
        }
    }

    private static void toldRefused() {
        Check.sentence("Promise 5", "OUTSIDE.");
        StairPortraits s = new StairPortraits();
        Check.due("told(-1)", s.told(-1), Check.OUTSIDE);
        Check.due("told(11)", s.told(11), Check.OUTSIDE);
        Check.due("told(10)", s.told(10), 0);
    }

    private static void picture() {
        Check.sentence("Promise 6", "UNKNOWN, OUTSIDE.");
        StairPortraits s = Check.stairs(HALL);
        Check.due("picture(-1, 0)", s.picture(-1, 0), Check.UNKNOWN);
        Check.due("picture(3, 0)", s.picture(3, 0), Check.UNKNOWN);
        Check.due("picture(10, 0)", s.picture(10, 0), Check.UNKNOWN);
        Check.due("picture(0, -1)", s.picture(0, -1), Check.OUTSIDE);
        Check.due("picture(2, 6)", s.picture(2, 6), Check.OUTSIDE);
        Check.due("picture(3, 6)", s.picture(3, 6), Check.UNKNOWN);
        // Fewer pictures than the house before: those are gone.
        Check.feed(s, "w1 1;p0 0 0 0;");
        s.house();
        Check.due("picture(1, 0) of the next house", s.picture(1, 0), Check.UNKNOWN);
        Check.due("picture(0, 4) of the next house", s.picture(0, 4), 0);
    }

    private static void pictureLooksAt() {
        Check.sentence("Promise 6", "Of a PICTURE: what = 0 KIND, 1 X, 2 Y, 3 which way it looks, 4 what it knows (a SET of THINGS),"
            + " 5 what it LOOKS AT (a PICTURE; 10 and a DOOR; NONE).");
        StairPortraits s = Check.stairs("w6 2;p0 5 1 2;p4 4 1 3;p1 3 1 1;d0 1;d4 0;p3 0 0 0;d1 0;d2 0;s0 6;");
        int[][] want = {{0, 5, 1, 2, 64, 1}, {4, 4, 1, 3, 0, 11}, {1, 3, 1, 1, 0, 10}, {3, 0, 0, 0, 0, Check.NONE}};
        for (int p = 0; p < want.length; p++) {
            for (int what = 0; what <= 5; what++) {
                Check.due("picture(" + p + ", " + what + ")", s.picture(p, what), want[p][what]);
            }
        }
        s.hang(3, 3, 0);
        s.hang(2, 2, 1);
        Check.due("a squint at the fourth door", s.turn(2, 2), 13);
        Check.due("told by picture", s.picture(2, 5), 13);
    }

    private static void on() {
        Check.sentence("Promise 7", "What is on a CELL: a PICTURE; 10 and a DOOR; NONE.");
        StairPortraits s = Check.stairs(HALL);
        Check.due("a picture", s.on(3, 0), 0);
        Check.due("a landscape", s.on(0, 2), 2);
        Check.due("a door in the first corner", s.on(0, 0), 10);
        Check.due("a door in the last corner", s.on(4, 2), 11);
        Check.due("a free corner", s.on(4, 0), Check.NONE);
        s.wall(0, true);
        Check.due("one turned to the wall", s.on(3, 0), 0);
        Check.sentence("Promise 7", "UNKNOWN.");
        Check.due("on(5, 0)", s.on(5, 0), Check.UNKNOWN);
        Check.due("on(0, 3)", s.on(0, 3), Check.UNKNOWN);
        Check.due("on(-1, 2)", s.on(-1, 2), Check.UNKNOWN);
        Check.due("on(4, -1)", s.on(4, -1), Check.UNKNOWN);
        Check.due("on(0, 0) without a wall", new StairPortraits().on(0, 0), Check.UNKNOWN);
    }

    private static void coming() {
        Check.sentence("Promise 8", "A COMING: what = 0 its hour, 1 DOOR, 2 THING;");
        StairPortraits s = Check.stairs(HALL);
        int[][] want = {{1, 0, 2}, {30, 1, 5}, {1, 0, 2}};
        for (int i = 0; i < want.length; i++) {
            for (int what = 0; what <= 2; what++) {
                Check.due("coming(" + i + ", " + what + ")", s.coming(i, what), want[i][what]);
            }
        }
        s.hour(60);
        Check.due("coming(0, 0) when it is over", s.coming(0, 0), 1);
        Check.sentence("Promise 8", "NONE: not so many.");
        Check.due("coming(3, 0)", s.coming(3, 0), Check.NONE);
        Check.due("coming(-1, 0)", s.coming(-1, 0), Check.NONE);
        Check.due("coming of the last int", s.coming(Integer.MAX_VALUE, 2), Check.NONE);
        Check.due("coming of the first int", s.coming(Integer.MIN_VALUE, 1), Check.NONE);
        Check.sentence("Promise 8", "OUTSIDE (what).");
        Check.due("coming(0, -1)", s.coming(0, -1), Check.OUTSIDE);
        Check.due("coming(0, 3)", s.coming(0, 3), Check.OUTSIDE);
        Check.due("coming(3, 3)", s.coming(3, 3), Check.OUTSIDE);
        Check.due("coming(-1, -1)", s.coming(-1, -1), Check.OUTSIDE);
    }

    private static void hang() {
        Check.sentence("Promise 9", "A PICTURE is hung on a CELL: what it LOOKS AT.");
        StairPortraits s = Check.stairs("w3 3;p0 0 0 0;d2 1;p0 2 0 2;");
        Check.due("beside a door", s.hang(0, 0, 1), 10);
        Check.due("where it is", s.on(0, 1), 0);
        Check.due("where it was", s.on(0, 0), Check.NONE);
        Check.due("who looked at it looks at nothing", s.picture(1, 5), Check.NONE);
        Check.due("in the last corner", s.hang(0, 2, 2), Check.NONE);
        Check.due("in the first corner", s.hang(0, 0, 0), 1);
        s.wall(0, true);
        Check.due("turned to the wall", s.hang(0, 0, 1), Check.NONE);
        Check.sentence("Promise 9", "UNKNOWN, NOT: that is not free (its own is not, either).");
        Check.due("hang(2, 1, 1)", s.hang(2, 1, 1), Check.UNKNOWN);
        Check.due("hang(-1, 1, 1)", s.hang(-1, 1, 1), Check.UNKNOWN);
        Check.due("hang(0, 3, 0)", s.hang(0, 3, 0), Check.UNKNOWN);
        Check.due("hang(0, 0, 3)", s.hang(0, 0, 3), Check.UNKNOWN);
        Check.due("hang(0, -1, 0)", s.hang(0, -1, 0), Check.UNKNOWN);
        Check.due("hang(0, 0, -1)", s.hang(0, 0, -1), Check.UNKNOWN);
        Check.due("on a door", s.hang(0, 2, 1), Check.NOT);
        Check.due("on another", s.hang(0, 2, 0), Check.NOT);
        Check.due("on its own", s.hang(0, 0, 1), Check.NOT);
        Check.due("on its own, where nobody else is", s.hang(1, 2, 0), Check.NOT);
        Check.due("still there", s.on(0, 1), 0);
    }

    private static void turn() {
        Check.sentence("Promise 10", "A PICTURE looks another way (0 .. 3): what it LOOKS AT.");
        StairPortraits s = Check.stairs("w3 3;d2 1;d1 2;d0 1;d1 0;p0 1 1 0;");
        for (int way = 3; way >= 0; way--) {
            Check.due("turn(0, " + way + ")", s.turn(0, way), 10 + way);
            Check.due("its way", s.picture(0, 3), way);
        }
        Check.due("the way that it has", s.turn(0, 0), 10);
        Check.due("a landscape", Check.stairs("w2 1;d1 0;p3 0 0 1;").turn(0, 0), Check.NONE);
        Check.sentence("Promise 10", "UNKNOWN, OUTSIDE.");
        Check.due("turn(1, 0)", s.turn(1, 0), Check.UNKNOWN);
        Check.due("turn(-1, 0)", s.turn(-1, 0), Check.UNKNOWN);
        Check.due("turn(0, 4)", s.turn(0, 4), Check.OUTSIDE);
        Check.due("turn(0, -1)", s.turn(0, -1), Check.OUTSIDE);
        Check.due("turn(1, 4)", s.turn(1, 4), Check.UNKNOWN);
        Check.due("its way is as it was", s.picture(0, 3), 0);
    }

    private static void wall() {
        Check.sentence("Promise 11", "A PICTURE is turned to the wall (is), or not: 1 it was, 0 not.");
        StairPortraits s = Check.stairs("w3 1;p0 0 0 0;p0 1 0 0;p0 2 0 2;");
        Check.due("not, as it was", s.wall(1, false), 0);
        Check.due("to the wall", s.wall(1, true), 0);
        Check.due("to the wall again", s.wall(1, true), 1);
        Check.due("who is", s.told(7), 2);
        Check.due("who looked at it", s.picture(0, 5), Check.NONE);
        Check.due("the last one", s.wall(2, true), 0);
        Check.due("who are", s.told(7), 6);
        Check.due("back", s.wall(1, false), 1);
        Check.due("back again", s.wall(1, false), 0);
        Check.due("who still is", s.told(7), 4);
        Check.due("who looks at it again", s.picture(0, 5), 1);
        Check.sentence("Promise 11", "UNKNOWN.");
        Check.due("wall(3, true)", s.wall(3, true), Check.UNKNOWN);
        Check.due("wall(-1, false)", s.wall(-1, false), Check.UNKNOWN);
        Check.due("wall(32, true)", s.wall(32, true), Check.UNKNOWN);
    }
}
