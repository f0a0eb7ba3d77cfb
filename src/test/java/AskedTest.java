/** Promises 22 to 27: ask, came, next, write, tear, judge. */
public final class AskedTest {
    /** Two doors: 0 and 1 hear of the left one, 2 and 3 of the right one. */
    private static final String TWO = "w7 1;d0 0;p0 1 0 2;p2 2 0 2;d6 0;p0 5 0 0;p0 4 0 0;e0 0 2;s3 2;";

    public static void main(String[] args) {
        ask();
        came();
        cameWithinSixtyHours();
        next();
        write();
        judge();
        Check.end();
    }

    private static void ask() {
        StairPortraits s = Check.stairs(TWO);
        Check.due("ask p", s.ask(4, 0, true), Check.UNKNOWN);
        Check.due("ask t", s.ask(0, 8, true), Check.UNKNOWN);
        for (int k = 1; k <= 8; k++) {
            Check.due("ask " + k, s.ask(0, 7, true), k);
        }
        Check.due("ask a ninth", s.ask(0, 7, true), Check.FULL);
        Check.due("ask a ninth of none", s.ask(-1, 7, true), Check.UNKNOWN);
        Check.due("told(9)", s.told(9), 8);
    }

    private static void came() {
        StairPortraits s = Check.stairs(TWO);
        Check.due("no hours were", s.came(2, -1), 0);
        s.hour(3);
        Check.due("all ways", s.came(2, -1), 6);
        int[] ways = {0, 1, 10, 11, 20, 21};
        for (int i = 0; i < ways.length; i++) {
            Check.due("way " + i, s.came(2, i), ways[i]);
        }
        Check.due("not so many", s.came(2, 6), Check.NONE);
        Check.due("below", s.came(2, -2), Check.NONE);
        Check.due("came(8)", s.came(8, -1), Check.UNKNOWN);
        Check.due("came(-1)", s.came(-1, -1), Check.UNKNOWN);
        s.ask(0, 2, true);
        Check.due("by the left door", s.came(2, -1), 3);
        Check.due("another thing", s.came(4, -1), 6);
        s.ask(1, 2, false);
        Check.due("just now", s.came(2, -1), 1);
        Check.due("just now: when", s.came(2, 0), 20);
        s.ask(1, 3, true);
        Check.due("a profile does not take it", s.came(3, -1), 0);
        s.tear();
        s.ask(3, 2, true);
        Check.due("by the right door, earlier", s.came(2, -1), 2);
        Check.due("by the right door, earlier: the last", s.came(2, 1), 11);
        s.ask(3, 2, false);
        Check.due("both cannot be", s.came(2, -1), 0);
        s.tear();
        s.wall(0, true);
        s.ask(0, 2, true);
        Check.due("as all is turned to the wall now", s.came(2, -1), 0);
    }

    private static void cameWithinSixtyHours() {
        StairPortraits s = Check.stairs(TWO);
        s.hour(60);
        Check.due("60 hours", s.came(0, -1), 120);
        s.hour(1);
        Check.due("61 hours", s.came(0, -1), 122);
        Check.due("the last", s.came(0, 121), 601);
        s.hour(1);
        Check.due("62 hours", s.came(0, -1), 122);
    }

    private static void next() {
        StairPortraits s = Check.stairs(TWO);
        Check.due("no ways", s.next(2), Check.NONE);
        s.hour(3);
        Check.due("half and half", s.next(2), 0);
        s.ask(2, 2, false);
        Check.due("2 of 3 or 1 of 3", s.next(2), 1);
        s.ask(1, 2, true);
        Check.due("nobody parts them", s.next(2), Check.NONE);
        Check.due("odd ones", s.next(3), 0);
        Check.due("next(8)", s.next(8), Check.UNKNOWN);
        Check.due("next(-1)", s.next(-1), Check.UNKNOWN);
    }

    private static void write() {
        StairPortraits s = Check.stairs(TWO);
        Check.due("write p", s.write(4, 256), Check.UNKNOWN);
        Check.due("write set", s.write(0, 256), Check.OUTSIDE);
        Check.due("write set below 0", s.write(0, -1), Check.OUTSIDE);
        for (int k = 1; k <= 15; k++) {
            Check.due("write " + k, s.write(0, 255), k);
        }
        Check.due("write a 16th", s.write(0, 0), Check.FULL);
        Check.due("write a 16th that is none", s.write(0, 256), Check.OUTSIDE);
        s.ask(0, 0, true);
        Check.due("tear", s.tear(), 16);
        Check.due("told(9)", s.told(9), 0);
        Check.due("told(10)", s.told(10), 0);
        Check.due("tear again", s.tear(), 0);
        Check.due("write again", s.write(0, 0), 1);
    }

    private static void judge() {
        StairPortraits s = Check.stairs(TWO);
        Check.due("an empty book", s.judge(), Check.NONE);
        s.write(3, 4);
        s.write(0, 0);
        Check.due("all is so", s.judge(), Check.NONE);
        s.write(3, 5);
        s.write(3, 4);
        s.write(3, 6);
        Check.due("the first", s.judge(), 2);
        s.hour(1);
        Check.due("otherwise now", s.judge(), 1);
    }
}
