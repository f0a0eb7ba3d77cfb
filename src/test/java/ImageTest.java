/** Promises 29, 30: keep, goBack. */
public final class ImageTest {
    private static final String HALL = "w5 1;d0 0;p0 1 0 2;p0 3 0 2;e0 0 1;e9 0 2;";

    public static void main(String[] args) {
        refusals();
        allComesBack();
        notesStay();
        twoImages();
        Check.end();
    }

    private static void refusals() {
        StairPortraits s = Check.stairs(HALL);
        Check.due("keep(2)", s.keep(2), Check.UNKNOWN);
        Check.due("keep(-1)", s.keep(-1), Check.UNKNOWN);
        Check.due("goBack(2)", s.goBack(2), Check.UNKNOWN);
        Check.due("goBack(-1)", s.goBack(-1), Check.UNKNOWN);
        Check.due("goBack(0)", s.goBack(0), Check.NOT);
        Check.due("keep(0)", s.keep(0), 1);
        Check.due("goBack(1)", s.goBack(1), Check.NOT);
        Check.due("goBack(0) kept", s.goBack(0), 1);
        Check.due("goBack(0) again", s.goBack(0), 1);
    }

    private static void allComesBack() {
        StairPortraits s = Check.stairs(HALL);
        s.hour(1);
        s.wall(1, true);
        s.seed(5);
        s.keep(1);
        s.hang(1, 2, 0);
        s.wall(1, false);
        s.turn(0, 3);
        s.drift(30);
        Check.due("goBack", s.goBack(1), 1);
        Check.due("X", s.picture(1, 1), 3);
        Check.due("way", s.picture(0, 3), 2);
        Check.due("look", s.picture(0, 5), 10);
        Check.due("what it knows", s.picture(0, 4), 2);
        Check.due("what the other knows", s.picture(1, 4), 0);
        Check.due("the wall", s.told(7), 2);
        Check.due("hours", s.told(6), 1);
        Check.due("the cell", s.on(2, 0), Check.NONE);
        Check.due("the seed", s.seed(0), 5);
    }

    private static void notesStay() {
        StairPortraits s = Check.stairs(HALL);
        s.keep(0);
        s.ask(0, 1, true);
        s.write(0, 0);
        s.goBack(0);
        Check.due("asked", s.told(9), 1);
        Check.due("the book", s.told(10), 1);
    }

    private static void twoImages() {
        StairPortraits s = Check.stairs(HALL);
        s.keep(0);
        s.hour(10);
        s.keep(1);
        s.goBack(0);
        Check.due("the first", s.told(6), 0);
        s.goBack(1);
        Check.due("the second", s.told(6), 10);
        Check.due("the second knows", s.picture(0, 4), 6);
        s.keep(0);
        s.hour(1);
        s.goBack(0);
        Check.due("kept anew", s.told(6), 10);
    }
}
