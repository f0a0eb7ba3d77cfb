/** Section 3 of "Terms", sentence by sentence: what is tried from now. */
final class TriedBounds {
    private static final String SECTION = "Section 3";
    /** The longest chain: a door, and eight that look each at the one before. */
    static final String CHAIN = "w7 2;d0 0;p0 1 0 2;p0 2 0 2;p0 3 0 2;p0 4 0 2;p0 5 0 2;p0 6 0 2;p0 6 1 3;p0 5 1 0;";
    /** A door, three that look each at the one before, a fourth that looks away. */
    static final String ROW = "w6 2;d0 0;p0 1 0 2;p0 2 0 2;p0 3 0 2;p0 4 0 0;e0 0 1;e29 0 2;e30 0 3;s0 4;";
    /** A door that four look at, one from each side. */
    private static final String ROUND = "w7 3;d3 1;p0 2 1 0;p0 4 1 2;p0 3 0 1;p0 3 2 3;e0 0 1;";

    private TriedBounds() {
    }

    static void all() {
        nothingChanges();
        when();
        hidden();
        turnWithinHours();
        turnFewest();
        turnOfEight();
        turnFirstOfOne();
        turnFirstOfTwo();
        walled();
        walledLeastSet();
        kinds();
        allOf();
        common();
        safe();
    }

    private static void nothingChanges() {
        Check.sentence(SECTION, "TRIED from now; nothing changes by it.");
        Twins.nothingChanges("when", s -> s.when(0, 6));
        Twins.nothingChanges("hidden", s -> s.hidden(60));
        Twins.nothingChanges("turns", s -> s.turns(3, 6, 0, 30, -1));
        Twins.nothingChanges("turns that finds none", s -> s.turns(2, 6, 0, 30, -1));
        Twins.nothingChanges("walled", s -> s.walled(0, 6, 30, 0));
        Twins.nothingChanges("walled of one told on", s -> s.wall(1, false), s -> s.walled(1, 5, 30, 1));
        Twins.nothingChanges("kinds", s -> s.kinds(2, 30, 0));
        Twins.nothingChanges("all", s -> s.all(15, 6));
        Twins.nothingChanges("common", s -> s.common(15));
        Twins.nothingChanges("safe", s -> s.safe(60, 1));
        Twins.nothingChanges("came", s -> s.came(1, 1));
        Twins.nothingChanges("next", s -> s.next(1));
        Twins.nothingChanges("judge", s -> s.judge());
    }

    private static void when() {
        Check.sentence(SECTION, "WHEN a PICTURE knows a THING: the fewest HOURS (0 .. 60) behind which it does; NONE.");
        StairPortraits s = Check.stairs(CHAIN + "e0 0 1;e30 0 6;e9 0 2;e5 0 2;s0 3;");
        for (int p = 0; p < 8; p++) {
            Check.due("known at first, picture " + p, s.when(p, 3), p);
            Check.due("at hour 0, picture " + p, s.when(p, 1), p + 1);
            Check.due("at hours 9 and 5, picture " + p, s.when(p, 2), p + 6);
            // No thing comes later, and no chain is longer: nothing lies between 38 hours and NONE.
            Check.due("at hour 30, picture " + p, s.when(p, 6), p + 31);
            Check.due("never, picture " + p, s.when(p, 0), Check.NONE);
        }
        s.turn(0, 0);
        Check.due("of who looks away", s.when(7, 1), Check.NONE);
        s.hour(6);
        s.turn(0, 2);
        Check.due("it was missed once, but comes again", s.when(0, 2), 4);
        Check.due("it was missed", s.when(0, 1), Check.NONE);
        StairPortraits each = Check.stairs("w2 1;p0 0 0 0;p0 1 0 2;s0 1;");
        Check.due("at each other: known", each.when(1, 1), 1);
        Check.due("at each other: unknown", each.when(1, 2), Check.NONE);
    }

    private static void hidden() {
        Check.sentence(SECTION, "HIDDEN behind n HOURS (0 .. 60): THINGS of COMINGS that nobody knows then (a SET of THINGS).");
        StairPortraits s = Check.stairs("w3 3;d0 0;d0 1;d2 2;p0 1 0 2;p4 1 1 2;e0 0 1;e2 1 2;e30 0 3;e0 2 4;e9 0 7;s0 7;s1 6;");
        Check.due("hidden(0)", s.hidden(0), 2 + 4 + 8 + 16);
        Check.due("hidden(1)", s.hidden(1), 4 + 8 + 16);
        Check.due("hidden(2)", s.hidden(2), 4 + 8 + 16);
        Check.due("hidden(3): a fake knows it", s.hidden(3), 8 + 16);
        Check.due("hidden(30)", s.hidden(30), 8 + 16);
        Check.due("hidden(31)", s.hidden(31), 16);
        Check.due("hidden(60)", s.hidden(60), 16);
        Check.due("hidden(61)", s.hidden(61), Check.OUTSIDE);
        Check.due("hidden(-1)", s.hidden(-1), Check.OUTSIDE);
        s.wall(0, true);
        s.hour(60);
        Check.due("what came and was missed", s.hidden(60), 2 + 8 + 16);
        Check.due("nobody hangs there", Check.stairs("w1 1;d0 0;e0 0 0;e30 0 7;").hidden(60), 1 + 128);
        Check.due("nothing comes", Check.stairs("w1 1;p0 0 0 0;").hidden(0), 0);
    }

    private static void turnWithinHours() {
        Check.sentence(SECTION, "TURN so that behind n HOURS (0 .. 30) a PICTURE knows a THING, and of a SET of PICTURES nobody does:");
        StairPortraits s = Check.stairs(ROW);
        Check.due("n = 0: it knows now, others do not", s.turns(0, 4, 14, 0, -1), 0);
        Check.due("n = 0: it does not know now", s.turns(1, 4, 0, 0, -1), Check.NONE);
        Check.due("n = 30: it comes at hour 29", s.turns(0, 2, 0, 30, -1), 0);
        Check.due("n = 29: it comes at hour 29", s.turns(0, 2, 0, 29, -1), Check.NONE);
        Check.due("n = 30: it comes at hour 30", s.turns(0, 3, 0, 30, -1), Check.NONE);
        Check.due("n = 31", s.turns(0, 3, 0, 31, -1), Check.OUTSIDE);
        Check.due("n = -1", s.turns(0, 3, 0, -1, -1), Check.OUTSIDE);
        Check.due("it is of the set itself", s.turns(0, 1, 1, 9, -1), Check.NONE);
        Check.due("one of the set knows already", s.turns(1, 4, 1, 9, -1), Check.NONE);
        Check.due("one of the set comes to know too late", s.turns(0, 1, 2, 1, -1), 0);
        Check.due("one of the set comes to know in time", s.turns(0, 1, 2, 2, -1), 1);
    }

    private static void turnFewest() {
        Check.sentence(SECTION, "the fewest PICTURES (0 .. 2) that must look another way than now from now on: how many;");
        StairPortraits s = Check.stairs(ROUND);
        Check.due("none", s.turns(0, 1, 0, 5, -1), 0);
        Check.due("one", s.turns(0, 1, 2, 5, -1), 1);
        Check.due("two", s.turns(0, 1, 6, 5, -1), 2);
        Check.due("three", s.turns(0, 1, 14, 5, -1), Check.NONE);
        StairPortraits away = Check.stairs("w4 1;d0 0;p0 1 0 0;p0 2 0 0;p0 3 0 0;e5 0 1;");
        Check.due("itself", away.turns(0, 1, 0, 6, -1), 1);
        Check.due("itself and another", away.turns(1, 1, 0, 7, -1), 2);
        Check.due("itself and two more", away.turns(2, 1, 0, 30, -1), Check.NONE);
        away.wall(0, true);
        Check.due("one turned to the wall", away.turns(0, 1, 0, 30, -1), Check.NONE);
    }

    private static void turnOfEight() {
        Check.sentence(SECTION, "the fewest PICTURES (0 .. 2) that must look another way than now");
        StairPortraits s = Check.stairs("w7 2;d0 0;p3 0 1 0;p3 1 1 0;p3 2 1 0;p3 3 1 0;p3 4 1 0;p3 5 1 0;p0 1 0 0;p0 2 0 0;e0 0 1;");
        Check.due("the last two of eight", s.turns(7, 1, 0, 9, -1), 2);
        Check.due("the seventh", s.turns(7, 1, 0, 9, 0), 62);
        Check.due("the eighth", s.turns(7, 1, 0, 9, 1), 72);
        Check.due("the last of eight alone", s.turns(6, 1, 0, 9, 0), 62);
        Check.due("no two of eight", s.turns(7, 2, 0, 9, -1), Check.NONE);
        Check.due("no two of eight, the others all but one", s.turns(7, 1, 127, 9, -1), Check.NONE);
    }

    private static void turnFirstOfOne() {
        Check.sentence(SECTION, "10 times PICTURE and way of the i-th; NONE.");
        StairPortraits s = Check.stairs(ROW);
        Check.due("the one", s.turns(3, 1, 0, 9, 0), 32);
        Check.due("no other", s.turns(3, 1, 0, 9, 1), Check.NONE);
        Check.due("none is needed", s.turns(2, 1, 0, 9, 0), Check.NONE);
        Check.due("none helps", s.turns(3, 7, 0, 9, 0), Check.NONE);
        Check.due("how many, where none helps", s.turns(3, 7, 0, 9, -1), Check.NONE);
        Check.due("a third", s.turns(3, 1, 0, 9, 2), Check.NONE);
        Check.due("the last int", s.turns(3, 1, 0, 9, Integer.MAX_VALUE), Check.NONE);
        Check.due("below NONE", s.turns(3, 1, 0, 9, -2), Check.NONE);
        StairPortraits last = Check.stairs("w7 2;d0 0;p3 0 1 0;p3 1 1 0;p3 2 1 0;p3 3 1 0;p3 4 1 0;p3 5 1 0;p3 6 1 0;p0 1 0 0;e0 0 0;");
        Check.due("the eighth picture", last.turns(7, 0, 0, 1, 0), 72);
        StairPortraits squint = Check.stairs("w2 1;d0 0;p1 1 0 3;e0 0 0;");
        Check.due("a squint is turned to where it looks left", squint.turns(0, 0, 0, 1, 0), 1);
    }

    private static void turnFirstOfTwo() {
        Check.sentence(SECTION, "the first such (of two the lesser PICTURE first; PICTURE, way, then the other one, its way):");
        StairPortraits s = Check.stairs(ROUND);
        Check.due("of one: the least way", s.turns(0, 1, 2, 5, 0), 10);
        Check.due("of one: not the way that it has", s.turns(1, 1, 1, 5, 0), 1);
        Check.due("of one or another: the lesser picture", Check.stairs(ROW).turns(0, 1, 4, 9, 0), 10);
        Check.due("of two: the lesser", s.turns(0, 1, 6, 5, 0), 10);
        Check.due("of two: the other", s.turns(0, 1, 6, 5, 1), 20);
        Check.due("of two: the lesser, where a greater one is to know", s.turns(3, 1, 3, 5, 0), 1);
        Check.due("of two: the other of these", s.turns(3, 1, 3, 5, 1), 10);
        Check.due("of two: no third", s.turns(0, 1, 6, 5, 2), Check.NONE);
        // 0 could look down at 2, which looks right to a door, or left at 1, which looks left to a door:
        // the way of the first is told apart ahead of the picture of the other.
        StairPortraits either = Check.stairs("w5 2;d0 0;p0 2 0 0;p0 1 0 1;p0 2 1 1;d3 1;e0 0 1;e0 1 1;");
        Check.due("the way of the first", either.turns(0, 1, 0, 9, 0), 1);
        Check.due("then the other one", either.turns(0, 1, 0, 9, 1), 20);
        // The one who is to know is the greater: it is told behind the lesser one.
        StairPortraits greater = Check.stairs("w4 1;d0 0;p0 1 0 3;p0 2 0 3;e0 0 1;");
        Check.due("the lesser is told first", greater.turns(1, 1, 0, 9, 0), 2);
        Check.due("the greater behind it", greater.turns(1, 1, 0, 9, 1), 12);
    }

    private static void walled() {
        Check.sentence(SECTION, "WALLED so that behind n HOURS a PICTURE does not know a THING:"
            + " the fewest PICTURES more to be turned to the wall now (not itself);");
        StairPortraits s = Check.stairs(ROW);
        Check.due("behind 0 hours it does not know", s.walled(2, 1, 0, 0), 0);
        Check.due("behind 2 hours it does not know yet", s.walled(2, 1, 2, 0), 0);
        Check.due("behind 3 hours it does", s.walled(2, 1, 3, 0), 1);
        Check.due("behind 30 hours, at hour 29", s.walled(1, 2, 30, 0), 0);
        Check.due("behind 30 hours, at hour 29, by the door", s.walled(0, 2, 30, 0), Check.NONE);
        Check.due("behind 29 hours, at hour 29, by the door", s.walled(0, 2, 29, 0), 0);
        Check.due("not itself: it sees the door", s.walled(0, 1, 1, 0), Check.NONE);
        Check.due("it knows now", s.walled(0, 4, 0, 0), Check.NONE);
        Check.due("it never knows", s.walled(3, 1, 30, 0), 0);
        s.wall(0, true);
        Check.due("one is turned already: none more", s.walled(2, 1, 30, 0), 0);
        Check.due("none more: the set", s.walled(2, 1, 30, 1), 0);
        s.wall(0, false);
        s.wall(3, true);
        Check.due("another one is turned already: one more", s.walled(2, 1, 30, 0), 1);
        Check.due("one more: the set has no other", s.walled(2, 1, 30, 1), 1);
        s.wall(2, true);
        Check.due("it is turned itself", s.walled(2, 1, 30, 0), 0);
        StairPortraits mirror = Check.stairs("w3 3;d2 2;p0 0 0 0;p5 2 0 0;e0 0 1;");
        Check.due("a mirror", mirror.walled(0, 1, 1, 0), 1);
        Check.due("a mirror: the set", mirror.walled(0, 1, 1, 1), 2);
    }

    private static void walledLeastSet() {
        Check.sentence(SECTION, "of like ones the least SET; NONE.");
        StairPortraits s = Check.stairs("w6 1;d0 0;p0 4 0 2;p0 5 0 3;p0 1 0 2;p0 3 0 2;p0 2 0 2;e0 0 1;");
        Check.due("2, 3 or 4: the least", s.walled(0, 1, 9, 1), 4);
        Check.due("2, 3 or 4: how many", s.walled(0, 1, 9, 0), 1);
        s.hour(1);
        Check.due("2 knows, but turned to the wall it is looked at by nobody", s.walled(0, 1, 9, 1), 4);
        s.hour(1);
        Check.due("4 knows: 3 or 4", s.walled(0, 1, 9, 1), 8);
        s.hour(1);
        Check.due("3 knows: 3 alone", s.walled(0, 1, 9, 1), 8);
        s.hour(1);
        Check.due("it knows: none, the set", s.walled(0, 1, 9, 1), Check.NONE);
        Check.due("it knows: none, how many", s.walled(0, 1, 9, 0), Check.NONE);
        StairPortraits last = Check.stairs("w7 2;p0 0 0 0;p3 0 1 0;p3 1 1 0;p3 2 1 0;p3 3 1 0;p3 4 1 0;p3 5 1 0;p0 1 0 3;s7 0;");
        Check.due("the eighth", last.walled(0, 0, 1, 1), 128);
    }

    private static void kinds() {
        Check.sentence(SECTION, "KINDS of a PICTURE by which behind n HOURS (0 .. 30) from now it would know just a told SET of THINGS"
            + " (it being of that KIND from now on; what it knows now it knows): a SET of KINDS.");
        StairPortraits s = Check.stairs(ROW);
        Check.due("n = 0: just what it knows", s.kinds(0, 0, 16), 63);
        Check.due("n = 0: less", s.kinds(0, 0, 0), 0);
        Check.due("n = 0: more", s.kinds(0, 0, 18), 0);
        Check.due("n = 29: ahead of hour 29", s.kinds(0, 29, 2 + 16), 1 + 16);
        Check.due("n = 30: behind hour 29", s.kinds(0, 30, 2 + 4 + 16), 1 + 16);
        Check.due("n = 30: a profile", s.kinds(0, 30, 4 + 16), 4);
        Check.due("n = 30: what it knows it knows", s.kinds(0, 30, 16), 2 + 8 + 32);
        Check.due("n = 30: just that", s.kinds(0, 30, 1 + 2 + 4 + 16), 0);
        Check.due("n = 31", s.kinds(0, 31, 16), Check.OUTSIDE);
        Check.due("n = -1", s.kinds(0, -1, 16), Check.OUTSIDE);
        for (int kind = 3; kind <= 5; kind++) {
            StairPortraits now = Check.stairs("w3 1;d0 0;p" + kind + " 1 0 2;e0 0 2;");
            Check.due("kind " + kind + " now: who would learn", now.kinds(0, 1, 4), 1 + 4 + 16);
            Check.due("kind " + kind + " now: who would not", now.kinds(0, 1, 0), 2 + 8 + 32);
        }
        StairPortraits squint = Check.stairs("w2 2;d0 0;p0 0 1 2;e0 0 0;");
        Check.due("a squint alone", squint.kinds(0, 1, 1), 2);
        StairPortraits walled = Check.stairs("w2 1;d0 0;p0 1 0 2;e0 0 0;");
        walled.wall(0, true);
        Check.due("turned to the wall", walled.kinds(0, 30, 0), 63);
    }

    private static void allOf() {
        Check.sentence(SECTION, "ALL of a SET of PICTURES know a THING: the fewest HOURS (0 .. 60); NONE.");
        StairPortraits s = Check.stairs(CHAIN + "e30 0 6;s0 3;s1 3;");
        Check.due("0: all of them know now", s.all(3, 3), 0);
        Check.due("the latest of them", s.all(7, 3), 1);
        Check.due("the latest of all, at hour 30", s.all(255, 6), 38);
        Check.due("of the empty set", s.all(0, 6), 0);
        Check.due("of the empty set, a thing that never comes", s.all(0, 0), 0);
        Check.due("a thing that never comes", s.all(1, 0), Check.NONE);
        s.turn(7, 1);
        Check.due("one of them never", s.all(255, 6), Check.NONE);
        Check.due("the others", s.all(127, 6), 37);
    }

    private static void common() {
        Check.sentence(SECTION, "COMMON: THINGS that all of a SET know now (a SET of THINGS; all THINGS 0 to 7 for the empty one).");
        StairPortraits s = Check.stairs("w3 1;p0 0 0 3;p0 1 0 3;p3 2 0 0;s0 0;s0 7;s1 7;s1 3;");
        Check.due("of the empty set", s.common(0), 255);
        Check.due("of the empty set, no wall", new StairPortraits().common(0), 255);
        Check.due("of 0", s.common(1), 129);
        Check.due("of 0 and 1", s.common(3), 128);
        Check.due("of all", s.common(7), 0);
        s.turn(0, 0);
        Check.due("now, not later", s.common(3), 128);
        s.hour(1);
        Check.due("later", s.common(3), 128 + 8);
    }

    private static void safe() {
        Check.sentence(SECTION, "SAFE: odds that none of n HOURS (0 .. 60) moves an eye, when dusting does by q of a hundred each HOUR:"
            + " a BILLION times (100 less q) / 100 each (cut).");
        StairPortraits s = new StairPortraits();
        Check.due("n = 0, q = 0", s.safe(0, 0), 1000000000);
        Check.due("n = 0, q = 100", s.safe(0, 100), 1000000000);
        Check.due("n = 1, q = 100", s.safe(1, 100), 0);
        Check.due("n = 1, q = 99", s.safe(1, 99), 10000000);
        Check.due("n = 1, q = 1", s.safe(1, 1), 990000000);
        Check.due("n = 60, q = 0", s.safe(60, 0), 1000000000);
        Check.due("n = 60, q = 100", s.safe(60, 100), 0);
        Check.due("n = 29, q = 50", s.safe(29, 50), 1);
        Check.due("n = 30, q = 50", s.safe(30, 50), 0);
        Check.due("n = 4, q = 99", s.safe(4, 99), 10);
        Check.due("n = 5, q = 99", s.safe(5, 99), 0);
        Check.due("n = 6, q = 33, cut each", s.safe(6, 33), 90458381);
        Check.due("n = 61", s.safe(61, 0), Check.OUTSIDE);
        Check.due("n = -1", s.safe(-1, 0), Check.OUTSIDE);
    }
}
