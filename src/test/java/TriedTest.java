/** Promises 14 to 21: when, hidden, turns, walled, kinds, all, common, safe. */
public final class TriedTest {
    /** A row: a door, three that look left at the one before, a fourth that looks away. */
    private static final String ROW = "w6 2;d0 0;p0 1 0 2;p0 2 0 2;p0 3 0 2;p0 4 0 0;e0 0 1;e2 0 3;e30 0 6;s0 4;";

    public static void main(String[] args) {
        when();
        hidden();
        turns();
        turnsOfTwo();
        walled();
        kinds();
        all();
        common();
        safe();
        Check.end();
    }

    private static void when() {
        StairPortraits s = Check.stairs(ROW);
        Check.due("known at first", s.when(0, 4), 0);
        Check.due("told of it", s.when(2, 4), 2);
        Check.due("by the door", s.when(0, 1), 1);
        Check.due("on from the door", s.when(2, 3), 5);
        Check.due("late", s.when(2, 6), 33);
        Check.due("never", s.when(3, 1), Check.NONE);
        Check.due("comes never", s.when(0, 7), Check.NONE);
        s.hour(2);
        Check.due("from now", s.when(2, 3), 3);
        Check.due("known now", s.when(1, 1), 0);
        s.hour(1);
        s.wall(0, true);
        Check.due("turned to the wall, known", s.when(0, 3), 0);
        Check.due("of who is turned to the wall", s.when(1, 3), Check.NONE);
        Check.due("when(4, 0)", s.when(4, 0), Check.UNKNOWN);
        Check.due("when(-1, 0)", s.when(-1, 0), Check.UNKNOWN);
        Check.due("when(0, 8)", s.when(0, 8), Check.UNKNOWN);
        Check.due("when(0, -1)", s.when(0, -1), Check.UNKNOWN);
        StairPortraits past = Check.stairs(ROW);
        past.turn(0, 0);
        past.hour(1);
        past.turn(0, 2);
        Check.due("it came already", past.when(0, 1), Check.NONE);
    }

    private static void hidden() {
        StairPortraits s = Check.stairs(ROW);
        Check.due("hidden(0)", s.hidden(0), 2 + 8 + 64);
        Check.due("hidden(1)", s.hidden(1), 8 + 64);
        Check.due("hidden(3)", s.hidden(3), 64);
        Check.due("hidden(30)", s.hidden(30), 64);
        Check.due("hidden(31)", s.hidden(31), 0);
        Check.due("hidden(60)", s.hidden(60), 0);
        Check.due("hidden(61)", s.hidden(61), Check.OUTSIDE);
        Check.due("hidden(-1)", s.hidden(-1), Check.OUTSIDE);
        s.wall(0, true);
        s.hour(60);
        Check.due("missed for ever", s.hidden(60), 2 + 8 + 64);
        Check.due("nothing changed", s.told(6), 60);
    }

    private static void turns() {
        StairPortraits s = Check.stairs(ROW);
        Check.due("none needed", s.turns(2, 1, 0, 3, -1), 0);
        Check.due("none needed, the first", s.turns(2, 1, 0, 3, 0), Check.NONE);
        Check.due("too soon", s.turns(2, 1, 0, 2, -1), Check.NONE);
        Check.due("one", s.turns(3, 1, 0, 9, -1), 1);
        Check.due("which", s.turns(3, 1, 0, 9, 0), 32);
        Check.due("which else", s.turns(3, 1, 0, 9, 1), Check.NONE);
        Check.due("a far one", s.turns(3, 1, 0, 9, 99), Check.NONE);
        Check.due("one below", s.turns(3, 1, 0, 9, -2), Check.NONE);
        Check.due("others not: the first way of the first", s.turns(0, 1, 2, 9, 0), 10);
        Check.due("it and not it", s.turns(0, 1, 1, 9, -1), Check.NONE);
        Check.due("others know already", s.turns(1, 4, 1, 9, -1), Check.NONE);
        Check.due("behind 0 hours", s.turns(0, 4, 14, 0, -1), 0);
        Check.due("looks are as they were", s.picture(3, 5), Check.NONE);
        Check.due("ways are as they were", s.picture(3, 3), 0);
        Check.due("turns p", s.turns(4, 1, 0, 9, -1), Check.UNKNOWN);
        Check.due("turns t", s.turns(0, 8, 0, 9, -1), Check.UNKNOWN);
        Check.due("turns set", s.turns(0, 1, 16, 9, -1), Check.UNKNOWN);
        Check.due("turns set below 0", s.turns(0, 1, -1, 31, -1), Check.UNKNOWN);
        Check.due("turns n", s.turns(0, 1, 15, 31, -1), Check.OUTSIDE);
        Check.due("turns n below 0", s.turns(0, 1, 15, -1, -1), Check.OUTSIDE);
    }

    private static void turnsOfTwo() {
        StairPortraits s = Check.stairs("w4 1;d0 0;p0 1 0 0;p0 2 0 1;p0 3 0 2;e5 0 1;");
        Check.due("two", s.turns(2, 1, 0, 30, -1), 2);
        Check.due("the lesser", s.turns(2, 1, 0, 30, 0), 2);
        Check.due("the other", s.turns(2, 1, 0, 30, 1), 12);
        Check.due("no third", s.turns(2, 1, 0, 30, 2), Check.NONE);
        Check.due("just in time", s.turns(2, 1, 0, 8, -1), 2);
        Check.due("too late", s.turns(2, 1, 0, 7, -1), Check.NONE);
        s.turn(2, 0);
        Check.due("three would be needed", s.turns(2, 1, 0, 30, -1), Check.NONE);
    }

    private static void walled() {
        StairPortraits s = Check.stairs(ROW);
        Check.due("does not know it anyway", s.walled(3, 1, 30, 0), 0);
        Check.due("does not know it anyway: the set", s.walled(3, 1, 30, 1), 0);
        Check.due("not so soon", s.walled(2, 1, 2, 0), 0);
        Check.due("one", s.walled(2, 1, 3, 0), 1);
        Check.due("the least", s.walled(2, 1, 3, 1), 1);
        Check.due("one known: the nearer one", s.walled(2, 4, 3, 1), 1);
        Check.due("it knows", s.walled(0, 4, 0, 0), Check.NONE);
        Check.due("it sees the door", s.walled(0, 1, 5, 1), Check.NONE);
        Check.due("nobody is turned to the wall by it", s.told(7), 0);
        s.hour(1);
        Check.due("who is behind it knows now", s.walled(2, 1, 30, 1), 1);
        s.hour(1);
        Check.due("the next one", s.walled(2, 1, 30, 1), 2);
        StairPortraits mirror = Check.stairs("w3 3;d2 2;p0 0 0 0;p5 2 0 0;e0 0 1;");
        Check.due("a mirror", mirror.walled(0, 1, 3, 1), 2);
        Check.due("walled p", s.walled(4, 0, 0, 0), Check.UNKNOWN);
        Check.due("walled t", s.walled(0, 8, 31, 2), Check.UNKNOWN);
        Check.due("walled n", s.walled(0, 0, 31, 0), Check.OUTSIDE);
        Check.due("walled n below 0", s.walled(0, 0, -1, 0), Check.OUTSIDE);
        Check.due("walled what", s.walled(0, 0, 0, 2), Check.OUTSIDE);
        Check.due("walled what below 0", s.walled(0, 0, 0, -1), Check.OUTSIDE);
    }

    private static void kinds() {
        StairPortraits s = Check.stairs(ROW);
        Check.due("portrait, fake", s.kinds(1, 30, 16 + 2 + 8), 1 + 16);
        Check.due("a profile", s.kinds(1, 30, 16), 4);
        Check.due("who looks at nothing", s.kinds(1, 30, 0), 2 + 8 + 32);
        Check.due("what it knows it knows", s.kinds(0, 30, 16), 2 + 4 + 8 + 32);
        Check.due("none", s.kinds(0, 30, 0), 0);
        Check.due("behind 0 hours", s.kinds(3, 0, 0), 63);
        Check.due("its kind is as it was", s.picture(1, 0), 0);
        Check.due("its look is as it was", s.picture(1, 5), 0);
        Check.due("kinds p", s.kinds(4, 31, 256), Check.UNKNOWN);
        Check.due("kinds n", s.kinds(0, 31, 0), Check.OUTSIDE);
        Check.due("kinds n below 0", s.kinds(0, -1, 0), Check.OUTSIDE);
        Check.due("kinds set", s.kinds(0, 0, 256), Check.OUTSIDE);
        Check.due("kinds set below 0", s.kinds(0, 0, -1), Check.OUTSIDE);
    }

    private static void all() {
        StairPortraits s = Check.stairs(ROW);
        Check.due("nobody", s.all(0, 7), 0);
        Check.due("the latest", s.all(7, 1), 3);
        Check.due("one", s.all(1, 4), 0);
        Check.due("one never", s.all(15, 1), Check.NONE);
        Check.due("late", s.all(7, 6), 33);
        Check.due("all set", s.all(16, 1), Check.UNKNOWN);
        Check.due("all set below 0", s.all(-1, 1), Check.UNKNOWN);
        Check.due("all t", s.all(1, 8), Check.UNKNOWN);
        Check.due("all t below 0", s.all(1, -1), Check.UNKNOWN);
    }

    private static void common() {
        StairPortraits s = Check.stairs(ROW);
        Check.due("of nobody", s.common(0), 255);
        Check.due("of one", s.common(1), 16);
        Check.due("of two", s.common(3), 0);
        s.hour(4);
        Check.due("of two later", s.common(3), 2 + 8 + 16);
        Check.due("of three later", s.common(7), 2 + 16);
        Check.due("common set", s.common(16), Check.UNKNOWN);
        Check.due("common set below 0", s.common(-2147483648), Check.UNKNOWN);
    }

    private static void safe() {
        StairPortraits s = new StairPortraits();
        Check.due("safe(0, 100)", s.safe(0, 100), 1000000000);
        Check.due("safe(1, 100)", s.safe(1, 100), 0);
        Check.due("safe(60, 0)", s.safe(60, 0), 1000000000);
        Check.due("safe(2, 1)", s.safe(2, 1), 980100000);
        long odds = 1000000000L;
        for (int k = 0; k < 60; k++) {
            odds -= (odds * 37 + 99) / 100;
        }
        Check.due("safe(60, 37), cut each", s.safe(60, 37), odds);
        Check.due("safe(61, 0)", s.safe(61, 0), Check.OUTSIDE);
        Check.due("safe(-1, 0)", s.safe(-1, 0), Check.OUTSIDE);
        Check.due("safe(0, 101)", s.safe(0, 101), Check.OUTSIDE);
        Check.due("safe(0, -1)", s.safe(0, -1), Check.OUTSIDE);
    }
}
