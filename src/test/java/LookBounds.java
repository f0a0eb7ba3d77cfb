/** Section 2 of "Terms", sentence by sentence: kinds, looks, hours. */
final class LookBounds {
    private static final String SECTION = "Section 2";
    private static final String ALL_COME = "e0 0 0;e0 0 1;e0 0 2;e0 0 3;e0 0 4;e0 0 5;e0 0 6;e0 0 7;";
    private static final String ALL_KNOWN = "s0 0;s0 1;s0 2;s0 3;s0 4;s0 5;s0 6;s0 7;";
    /** A picture in the middle and a door on each side of it: 10 right, 11 down, 12 left, 13 up. */
    private static final String SIDES = "w3 3;d2 1;d1 2;d0 1;d1 0;";
    /** Six cells, six, six, five, five: the look of 0 is on its 28th cell at (5, 1) and goes down from there. */
    private static final String SPIRAL = "w7 7;p0 0 0 0;p5 6 0 0;p5 6 6 0;p5 0 6 0;p5 0 1 0;p5 5 1 0;";

    private LookBounds() {
    }

    static void all() {
        portrait();
        squint();
        profile();
        landscape();
        fake();
        mirror();
        lookOfOneTurnedToWall();
        cellByCell();
        endsOnDoor();
        endsOnOneTurnedToWall();
        bends();
        thirtyCells();
        endsOnAnother();
        endsAtNothing();
        hoursFromZero();
        byTheDoor();
        toldOn();
        knowsFromThenOn();
        learnNothing();
    }

    private static void portrait() {
        Check.sentence(SECTION, "KINDS: 0 PORTRAIT;");
        for (int way = 0; way < 4; way++) {
            StairPortraits s = Check.stairs(SIDES + "p0 1 1 " + way + ";");
            Check.due("a portrait looks to " + way, s.picture(0, 5), 10 + way);
        }
        StairPortraits s = Check.stairs("w2 1;d0 0;p0 1 0 2;" + ALL_COME);
        s.hour(1);
        Check.due("a portrait learns every thing", s.picture(0, 4), 255);
    }

    private static void squint() {
        Check.sentence(SECTION, "1 SQUINT: looks one quarter further round (right, down, left, up, right);");
        int[] seen = {11, 12, 13, 10};
        for (int way = 0; way < 4; way++) {
            StairPortraits s = Check.stairs(SIDES + "p1 1 1 " + way + ";");
            Check.due("a squint to " + way, s.picture(0, 5), seen[way]);
            Check.due("its way is as told", s.picture(0, 3), way);
        }
    }

    private static void profile() {
        Check.sentence(SECTION, "2 PROFILE: takes over, when told, only every second THING (even numbers);");
        StairPortraits s = Check.stairs("w3 1;p0 0 0 3;p2 1 0 2;p0 2 0 2;" + ALL_KNOWN);
        s.hour(1);
        Check.due("what it takes over", s.picture(1, 4), 1 + 4 + 16 + 64);
        s.hour(1);
        Check.due("what it tells on", s.picture(2, 4), 1 + 4 + 16 + 64);
        StairPortraits first = Check.stairs("w2 1;p2 0 0 3;p0 1 0 2;s0 7;");
        Check.due("an odd one that it knows at first", first.picture(0, 4), 128);
        first.hour(1);
        Check.due("is told on by it", first.picture(1, 4), 128);
    }

    private static void landscape() {
        Check.sentence(SECTION, "3 LANDSCAPE: looks at nothing, knows nothing;");
        blind(3);
    }

    private static void blind(int kind) {
        for (int way = 0; way < 4; way++) {
            StairPortraits s = Check.stairs(SIDES + "p" + kind + " 1 1 " + way + ";e0 0 0;e0 1 0;e0 2 0;e0 3 0;");
            Check.due("kind " + kind + " looks to " + way, s.picture(0, 5), Check.NONE);
            s.hour(1);
            Check.due("kind " + kind + " knows", s.picture(0, 4), 0);
        }
        Check.fault("w1 1;p" + kind + " 0 0 0;s0 0;", 4, 15);
    }

    private static void fake() {
        Check.sentence(SECTION, "4 FAKE: knows, but nothing is told on by it;");
        StairPortraits s = Check.stairs("w4 1;d0 0;p4 1 0 2;p0 2 0 2;p0 3 0 2;e0 0 1;e1 0 2;s0 7;");
        Check.due("it is looked at", s.picture(1, 5), 0);
        s.hour(10);
        Check.due("it knows", s.picture(0, 4), 2 + 4 + 128);
        Check.due("who looks at it", s.picture(1, 4), 0);
        Check.due("who looks at that one", s.picture(2, 4), 0);
        StairPortraits told = Check.stairs("w2 1;p0 0 0 3;p4 1 0 2;s0 3;");
        told.hour(1);
        Check.due("it is told", told.picture(1, 4), 8);
    }

    private static void mirror() {
        Check.sentence(SECTION, "5 MIRROR: looks at nothing, knows nothing, bends looks.");
        blind(5);
        StairPortraits s = Check.stairs("w2 2;p0 0 0 0;p5 1 0 0;p0 1 1 3;s2 3;");
        Check.due("a look that is bent", s.picture(0, 5), 2);
        s.hour(1);
        Check.due("what is told by the mirror", s.picture(0, 4), 8);
        Check.due("what the mirror knows of it", s.picture(1, 4), 0);
    }

    private static void lookOfOneTurnedToWall() {
        Check.sentence(SECTION, "A LOOK of a PICTURE (not turned to the wall)");
        StairPortraits s = Check.stairs(SIDES + "p0 1 1 0;");
        s.wall(0, true);
        for (int way = 0; way < 4; way++) {
            Check.due("turned to the wall, to " + way, s.turn(0, way), Check.NONE);
            Check.due("what it looks at", s.picture(0, 5), Check.NONE);
        }
        s.wall(0, false);
        Check.due("not any more", s.picture(0, 5), 13);
    }

    private static void cellByCell() {
        Check.sentence(SECTION, "goes from its CELL, CELL by CELL, the way it looks;");
        StairPortraits s = Check.stairs("w7 7;p0 0 0 0;p3 6 0 0;p3 4 0 0;p3 0 6 0;p3 5 1 0;");
        Check.due("the nearer one", s.picture(0, 5), 2);
        s.hang(2, 4, 1);
        Check.due("the farther one", s.picture(0, 5), 1);
        s.hang(2, 1, 0);
        Check.due("the next cell", s.picture(0, 5), 2);
        Check.due("down the whole wall", s.turn(0, 1), 3);
    }

    private static void endsOnDoor() {
        Check.sentence(SECTION, "on a DOOR it ends (it LOOKS AT the DOOR),");
        StairPortraits s = Check.stairs("w4 1;p0 0 0 0;d2 0;p0 3 0 2;");
        Check.due("the door ahead of the other", s.picture(0, 5), 10);
        Check.due("the door from its other side", s.picture(1, 5), 10);
    }

    private static void endsOnOneTurnedToWall() {
        Check.sentence(SECTION, "on a PICTURE turned to the wall it ends (at nothing),");
        for (int kind = 0; kind <= 5; kind++) {
            StairPortraits s = Check.stairs("w4 2;p0 0 0 0;d3 0;p" + kind + " 2 0 0;d2 1;");
            s.wall(1, true);
            Check.due("on kind " + kind + " turned to the wall", s.picture(0, 5), Check.NONE);
            s.wall(1, false);
            Check.due("on kind " + kind + " turned back", s.picture(0, 5), kind == 5 ? 11 : 1);
        }
    }

    private static void bends() {
        Check.sentence(SECTION, "on a MIRROR it goes on one quarter further round from there");
        Check.due("right, then down", Check.stairs("w3 3;p5 1 1 0;p0 0 1 0;d1 2;").picture(1, 5), 10);
        Check.due("down, then left", Check.stairs("w3 3;p5 1 1 0;p0 1 0 1;d0 1;").picture(1, 5), 10);
        Check.due("left, then up", Check.stairs("w3 3;p5 1 1 0;p0 2 1 2;d1 0;").picture(1, 5), 10);
        Check.due("up, then right", Check.stairs("w3 3;p5 1 1 0;p0 1 2 3;d2 1;").picture(1, 5), 10);
        Check.due("a squint: down, then left", Check.stairs("w3 3;p5 1 1 0;p1 1 0 0;d0 1;").picture(1, 5), 10);
        for (int way = 0; way < 4; way++) {
            StairPortraits s = Check.stairs("w3 3;p5 1 1 " + way + ";p0 0 1 0;d1 2;");
            Check.due("by a mirror whose way is " + way, s.picture(1, 5), 10);
        }
        Check.due("by two", Check.stairs("w3 3;p0 0 0 0;p5 2 0 0;p5 2 2 0;d1 2;").picture(0, 5), 10);
    }

    private static void thirtyCells() {
        Check.sentence(SECTION, "(30 CELLS at most in all),");
        Check.due("a door on the 30th cell", Check.stairs(SPIRAL + "d5 3;").picture(0, 5), 10);
        Check.due("a door on the 31st cell", Check.stairs(SPIRAL + "d5 4;").picture(0, 5), Check.NONE);
        Check.due("a picture on the 30th cell", Check.stairs(SPIRAL + "p0 5 3 0;").picture(0, 5), 6);
        Check.due("a picture on the 31st cell", Check.stairs(SPIRAL + "p0 5 4 0;").picture(0, 5), Check.NONE);
        Check.due("a mirror on the 30th cell", Check.stairs(SPIRAL + "p5 5 3 0;d4 3;").picture(0, 5), Check.NONE);
        Check.due("a mirror on the 29th cell", Check.stairs(SPIRAL + "p5 5 2 0;d4 2;").picture(0, 5), 10);
    }

    private static void endsOnAnother() {
        Check.sentence(SECTION, "on another one it ends (it LOOKS AT it);");
        for (int kind = 0; kind <= 4; kind++) {
            StairPortraits s = Check.stairs("w4 2;p0 0 0 0;p" + kind + " 2 0 0;d3 0;d2 1;");
            Check.due("on kind " + kind, s.picture(0, 5), 1);
        }
    }

    private static void endsAtNothing() {
        Check.sentence(SECTION, "beyond THE WALL, on its own CELL it ends at nothing.");
        for (int way = 0; way < 4; way++) {
            Check.due("beyond, to " + way, Check.stairs("w1 1;p0 0 0 " + way + ";").picture(0, 5), Check.NONE);
            Check.due("far beyond, to " + way, Check.stairs("w7 7;p0 3 3 " + way + ";").picture(0, 5), Check.NONE);
        }
        Check.due("beyond behind a mirror", Check.stairs("w2 1;p0 0 0 0;p5 1 0 0;").picture(0, 5), Check.NONE);
        // No look goes on from a line's end to the next line's start.
        Check.due("round the edge", Check.stairs("w3 2;p0 2 0 0;d0 1;d0 0;").picture(0, 5), Check.NONE);
        StairPortraits round = Check.stairs("w3 3;p0 0 0 0;p5 2 0 0;p5 2 2 0;p5 0 2 0;d0 1;");
        Check.due("a door ahead of its own cell", round.picture(0, 5), 10);
        StairPortraits own = Check.stairs("w3 3;p0 0 1 3;p5 0 0 0;p5 2 0 0;p5 2 2 0;p5 0 2 0;");
        Check.due("its own cell", own.picture(0, 5), Check.NONE);
        StairPortraits squint = Check.stairs("w2 2;p1 0 0 3;p5 1 0 0;p5 1 1 0;p5 0 1 0;");
        Check.due("its own cell, a squint", squint.picture(0, 5), Check.NONE);
    }

    private static void hoursFromZero() {
        Check.sentence(SECTION, "HOURS are counted from 0.");
        StairPortraits s = Check.stairs("w2 1;d0 0;p0 1 0 2;e0 0 1;e1 0 2;");
        Check.due("at first", s.told(6), 0);
        Check.due("the first hour", s.hour(1), 1);
        Check.due("what comes at hour 0", s.picture(0, 4), 2);
        Check.due("the next", s.hour(1), 2);
        Check.due("what comes at hour 1", s.picture(0, 4), 2 + 4);
    }

    private static void byTheDoor() {
        Check.sentence(SECTION, "AN HOUR (number t): (a) who LOOKS AT a DOOR by which THINGS come at t knows them (a PROFILE even ones alone).");
        String hall = "w3 2;d0 0;d0 1;p0 1 0 2;p2 1 1 2;p0 2 0 2;e3 0 1;e3 0 4;e4 0 6;e3 1 0;e3 1 7;e30 0 5;";
        StairPortraits s = Check.stairs(hall);
        s.hour(3);
        Check.due("ahead of the hour", s.picture(0, 4), 0);
        s.hour(1);
        Check.due("in the hour, both things", s.picture(0, 4), 2 + 16);
        Check.due("a profile by the other door", s.picture(1, 4), 1);
        Check.due("who looks at who looks", s.picture(2, 4), 0);
        s.hour(26);
        Check.due("30 hours", s.picture(0, 4), 2 + 16 + 64);
        s.hour(1);
        Check.due("31 hours", s.picture(0, 4), 2 + 16 + 64 + 32);
        StairPortraits late = Check.stairs(hall);
        late.turn(0, 3);
        late.hour(4);
        late.turn(0, 2);
        late.hour(1);
        Check.due("who looks behind the hour", late.picture(0, 4), 64);
    }

    private static void toldOn() {
        Check.sentence(SECTION, "(b) who LOOKS AT a PICTURE takes over what that one knew ahead of this HOUR"
            + " (not from a FAKE; a PROFILE even ones alone), all at once.");
        String up = "w5 1;d0 0;p0 1 0 2;p0 2 0 2;p0 3 0 2;e0 0 1;";
        String down = "w5 1;d0 0;p0 3 0 2;p0 2 0 2;p0 1 0 2;e0 0 1;";
        for (int hours = 0; hours <= 3; hours++) {
            StairPortraits one = Check.stairs(up);
            StairPortraits two = Check.stairs(down);
            for (int k = 0; k < hours; k++) {
                one.hour(1);
                two.hour(1);
            }
            for (int k = 0; k < 3; k++) {
                Check.due("the " + k + "th behind " + hours, one.picture(k, 4), hours > k ? 2 : 0);
                Check.due("the " + k + "th behind " + hours + ", numbered the other way", two.picture(2 - k, 4), hours > k ? 2 : 0);
            }
        }
        StairPortraits each = Check.stairs("w2 1;p0 0 0 0;p2 1 0 2;s0 1;s0 2;s1 3;");
        each.hour(1);
        Check.due("at each other", each.picture(0, 4), 2 + 4 + 8);
        Check.due("at each other, the profile", each.picture(1, 4), 4 + 8);
        StairPortraits fake = Check.stairs("w2 1;p4 0 0 0;p0 1 0 2;s0 1;s1 3;");
        fake.hour(9);
        Check.due("a fake takes over", fake.picture(0, 4), 2 + 8);
        Check.due("not from a fake", fake.picture(1, 4), 8);
    }

    private static void knowsFromThenOn() {
        Check.sentence(SECTION, "What one knows it knows from then on.");
        StairPortraits s = Check.stairs("w3 2;d0 0;p0 1 0 2;p0 2 0 2;e0 0 1;s1 6;");
        s.hour(1);
        s.turn(0, 3);
        s.turn(1, 3);
        s.wall(0, true);
        s.hang(1, 0, 1);
        s.hour(60);
        s.drift(60);
        Check.due("turned away and to the wall", s.picture(0, 4), 2);
        Check.due("hung elsewhere", s.picture(1, 4), 64);
        s.wall(0, false);
        Check.due("turned back", s.picture(0, 4), 2);
    }

    private static void learnNothing() {
        Check.sentence(SECTION, "LANDSCAPES, MIRRORS, who is turned to the wall learn nothing;"
            + " who is turned to the wall is LOOKED AT by nobody.");
        for (int kind : new int[] {3, 5}) {
            StairPortraits s = Check.stairs("w4 1;d0 0;p" + kind + " 1 0 2;p0 2 0 0;p" + kind + " 3 0 2;e0 0 1;s1 2;");
            s.hour(5);
            Check.due("kind " + kind + " beside a door", s.picture(0, 4), 0);
            Check.due("kind " + kind + " beside one who knows", s.picture(2, 4), 0);
        }
        StairPortraits s = Check.stairs("w4 1;d0 0;p0 1 0 2;p0 2 0 2;p0 3 0 2;e0 0 1;s0 2;s1 3;");
        s.wall(0, true);
        s.wall(2, true);
        s.hour(5);
        Check.due("turned to the wall, by the door", s.picture(0, 4), 4);
        Check.due("turned to the wall, beside one who knows", s.picture(2, 4), 0);
        Check.due("of one turned to the wall", s.picture(1, 4), 8);
        Check.due("whom it looks at", s.picture(1, 5), Check.NONE);
    }
}
