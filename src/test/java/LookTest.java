/** Section 2 by promises 6, 9, 10, 11: whom each kind looks at, mirrors, the wall, and the 30 cells. */
public final class LookTest {
    public static void main(String[] args) {
        ways();
        squint();
        mirrors();
        turnedToWall();
        ownCell();
        thirtyCells();
        hang();
        turn();
        wall();
        Check.end();
    }

    private static void ways() {
        StairPortraits s = Check.stairs("w5 5;p0 2 2 0;d2 0;d4 2;p3 2 4 0;p4 0 2 0;");
        Check.due("right", s.picture(0, 5), 11);
        Check.due("down, a landscape", s.turn(0, 1), 1);
        Check.due("left, a fake", s.turn(0, 2), 2);
        Check.due("up", s.turn(0, 3), 10);
        Check.due("a landscape looks at nothing", s.turn(1, 3), Check.NONE);
        Check.due("a fake looks", s.turn(2, 0), 0);
        Check.due("beyond the wall", s.turn(2, 2), Check.NONE);
    }

    private static void squint() {
        StairPortraits s = Check.stairs("w3 3;p1 1 1 0;d2 1;d1 2;d0 1;d1 0;");
        Check.due("right is down", s.picture(0, 5), 11);
        Check.due("down is left", s.turn(0, 1), 12);
        Check.due("left is up", s.turn(0, 2), 13);
        Check.due("up is right", s.turn(0, 3), 10);
        Check.due("its way is as told", s.picture(0, 3), 3);
    }

    private static void mirrors() {
        StairPortraits s = Check.stairs("w5 5;p0 0 0 0;p5 4 0 0;p5 4 4 2;p0 0 4 0;d2 4;");
        Check.due("by two mirrors", s.picture(0, 5), 10);
        Check.due("a mirror looks at nothing", s.picture(1, 5), Check.NONE);
        s.hang(2, 3, 3);
        Check.due("by one mirror, beyond the wall", s.picture(0, 5), Check.NONE);
        s.hang(3, 4, 3);
        Check.due("by one mirror", s.picture(0, 5), 3);
        s.turn(1, 3);
        Check.due("whichever way the mirror is turned", s.picture(0, 5), 3);
    }

    private static void turnedToWall() {
        StairPortraits s = Check.stairs("w5 2;p0 0 0 0;p5 2 0 0;d2 1;p0 4 0 2;");
        Check.due("by the mirror", s.picture(0, 5), 10);
        s.wall(1, true);
        Check.due("a mirror turned to the wall ends it", s.picture(0, 5), Check.NONE);
        s.hang(1, 0, 1);
        Check.due("at each other", s.picture(0, 5), 2);
        s.wall(2, true);
        Check.due("who is turned to the wall is looked at by nobody", s.picture(0, 5), Check.NONE);
        Check.due("who is turned to the wall looks at nothing", s.picture(2, 5), Check.NONE);
        Check.due("turned meanwhile", s.turn(2, 2), Check.NONE);
        s.wall(2, false);
        Check.due("turned back", s.picture(2, 5), 0);
    }

    private static void ownCell() {
        StairPortraits s = Check.stairs("w3 3;p0 0 0 0;p5 2 0 0;p5 2 2 0;p5 0 2 0;");
        Check.due("round to its own cell", s.picture(0, 5), Check.NONE);
        StairPortraits back = Check.stairs("w3 3;p0 1 1 0;p5 2 1 0;p5 2 2 0;p5 1 2 0;");
        Check.due("round to its own cell in a small round", back.picture(0, 5), Check.NONE);
    }

    private static void thirtyCells() {
        String spiral = "w7 7;p0 0 0 0;p5 6 0 0;p5 6 6 0;p5 0 6 0;p5 0 1 0;p5 5 1 0;";
        Check.due("the 30th cell", Check.stairs(spiral + "d5 3;").picture(0, 5), 10);
        Check.due("the 31st cell", Check.stairs(spiral + "d5 4;").picture(0, 5), Check.NONE);
        Check.due("a picture on the 30th cell", Check.stairs(spiral + "p3 5 3 0;").picture(0, 5), 6);
        Check.due("a picture on the 31st cell", Check.stairs(spiral + "p3 5 4 0;").picture(0, 5), Check.NONE);
    }

    private static void hang() {
        StairPortraits s = Check.stairs("w3 2;p0 0 0 0;d2 1;p0 2 0 2;");
        Check.due("hang on a free cell", s.hang(0, 0, 1), 10);
        Check.due("where it is", s.on(0, 1), 0);
        Check.due("where it was", s.on(0, 0), Check.NONE);
        Check.due("the other one looks at nobody now", s.picture(1, 5), Check.NONE);
        Check.due("hang on a door", s.hang(0, 2, 1), Check.NOT);
        Check.due("hang on another", s.hang(0, 2, 0), Check.NOT);
        Check.due("hang on its own", s.hang(0, 0, 1), Check.NOT);
        Check.due("hang beyond X", s.hang(0, 3, 0), Check.UNKNOWN);
        Check.due("hang beyond Y", s.hang(0, 0, 2), Check.UNKNOWN);
        Check.due("hang below 0", s.hang(0, -1, 0), Check.UNKNOWN);
        Check.due("hang none", s.hang(2, 0, 0), Check.UNKNOWN);
        Check.due("hang less than none", s.hang(-1, 0, 0), Check.UNKNOWN);
        Check.due("refused: still there", s.on(0, 1), 0);
    }

    private static void turn() {
        StairPortraits s = Check.stairs("w3 1;p0 1 0 0;d0 0;");
        Check.due("turn", s.turn(0, 2), 10);
        Check.due("turn alike", s.turn(0, 2), 10);
        Check.due("turn(0, 4)", s.turn(0, 4), Check.OUTSIDE);
        Check.due("turn(0, -1)", s.turn(0, -1), Check.OUTSIDE);
        Check.due("turn(1, 4)", s.turn(1, 4), Check.UNKNOWN);
        Check.due("way", s.picture(0, 3), 2);
        Check.due("turn away", s.turn(0, 3), Check.NONE);
    }

    private static void wall() {
        StairPortraits s = Check.stairs("w3 1;p0 1 0 0;p0 0 0 0;");
        Check.due("wall", s.wall(1, true), 0);
        Check.due("wall again", s.wall(1, true), 1);
        Check.due("told(7)", s.told(7), 2);
        Check.due("wall not", s.wall(1, false), 1);
        Check.due("wall not again", s.wall(1, false), 0);
        Check.due("told(7) again", s.told(7), 0);
        Check.due("wall(2)", s.wall(2, true), Check.UNKNOWN);
        Check.due("wall(-1)", s.wall(-1, false), Check.UNKNOWN);
    }
}
