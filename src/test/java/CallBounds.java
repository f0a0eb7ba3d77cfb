/** Promises 12 to 30, sentence by sentence: hours, what is tried, asked, drawn and kept. */
final class CallBounds {
    private CallBounds() {
    }

    static void all() {
        hour();
        drift();
        fullOfHours();
        when();
        hidden();
        turns();
        walled();
        kinds();
        allOf();
        common();
        safe();
        ask();
        came();
        next();
        write();
        tear();
        judge();
        seed();
        keep();
        goBack();
    }

    private static void hour() {
        Check.sentence("Promise 12", "n HOURS (1 .. 60): HOURS.");
        StairPortraits s = Check.stairs(TriedBounds.CHAIN + "e0 0 1;");
        Check.due("hour(1)", s.hour(1), 1);
        Check.due("hour(60)", s.hour(60), 61);
        Check.due("told(6)", s.told(6), 61);
        StairPortraits seven = Check.stairs(TriedBounds.CHAIN + "e0 0 1;");
        seven.hour(7);
        Check.due("behind 7 hours the seventh knows", seven.picture(6, 4), 2);
        Check.due("behind 7 hours the eighth does not", seven.picture(7, 4), 0);
        Check.due("an empty wall", Check.stairs("w1 1;").hour(60), 60);
        Check.sentence("Promise 12", "OUTSIDE, NOT: no WALL;");
        Check.due("hour(0)", s.hour(0), Check.OUTSIDE);
        Check.due("hour(61)", s.hour(61), Check.OUTSIDE);
        Check.due("hour(-1)", s.hour(-1), Check.OUTSIDE);
        Check.due("no wall", new StairPortraits().hour(1), Check.NOT);
        Check.due("no wall and too many", new StairPortraits().hour(61), Check.OUTSIDE);
        s.house();
        Check.due("no wall any more", s.hour(1), Check.NOT);
        Check.due("no hours then", s.told(6), 0);
    }

    private static void drift() {
        Check.sentence("Promise 13", "n HOURS BY DRAWS (1 .. 60): HOURS.");
        StairPortraits s = Check.stairs("w1 1;p0 0 0 0;");
        Check.due("drift(1)", s.drift(1), 1);
        Check.due("dusted", s.picture(0, 3), 1);
        Check.due("drift(60)", s.drift(60), 61);
        Check.due("an empty wall", Check.stairs("w1 1;").drift(60), 60);
        StairPortraits at = Check.stairs("w1 1;p0 0 0 0;");
        StairPortraits once = Check.stairs("w1 1;p0 0 0 0;");
        for (int k = 0; k < 60; k++) {
            once.drift(1);
        }
        at.drift(60);
        Check.due("sixty at once, or one by one: the way", at.picture(0, 3), once.picture(0, 3));
        Check.due("sixty at once, or one by one: the seed", at.seed(0), once.seed(0));
        Check.sentence("Promise 13", "OUTSIDE, NOT: no WALL;");
        Check.due("drift(0)", s.drift(0), Check.OUTSIDE);
        Check.due("drift(61)", s.drift(61), Check.OUTSIDE);
        Check.due("drift(-1)", s.drift(-1), Check.OUTSIDE);
        Check.due("no wall", new StairPortraits().drift(1), Check.NOT);
        Check.due("no wall and too many", new StairPortraits().drift(61), Check.OUTSIDE);
    }

    /** More calls than the 512 that are promised: the bound is out of their reach. */
    private static void fullOfHours() {
        Check.sentence("Promise 12", "FULL: HOURS are above 90000.");
        StairPortraits s = Check.stairs("w1 1;p0 0 0 0;");
        for (int k = 0; k < 1499; k++) {
            s.hour(60);
        }
        s.hour(59);
        Check.due("89999 hours and 1", s.hour(1), 90000);
        s.keep(0);
        Check.due("90000 hours and 60", s.hour(60), 90060);
        Check.due("hour(1) above 90000", s.hour(1), Check.FULL);
        Check.due("hour(60) above 90000", s.hour(60), Check.FULL);
        Check.due("hour(61) above 90000", s.hour(61), Check.OUTSIDE);
        s.goBack(0);
        Check.due("90000 hours and 1", s.hour(1), 90001);
        Check.due("hour(1) at 90001", s.hour(1), Check.FULL);
        Check.sentence("Promise 13", "FULL: HOURS are above 90000.");
        Check.due("drift(1) at 90001", s.drift(1), Check.FULL);
        Check.due("drift(61) at 90001", s.drift(61), Check.OUTSIDE);
        Check.due("the seed is as it was", s.seed(0), 0);
        s.goBack(0);
        Check.due("90000 hours and 1 by draws", s.drift(1), 90001);
    }

    private static void when() {
        Check.sentence("Promise 14", "WHEN; NONE.");
        StairPortraits s = Check.stairs(TriedBounds.ROW);
        Check.due("now", s.when(0, 4), 0);
        Check.due("behind an hour", s.when(0, 1), 1);
        Check.due("never", s.when(3, 1), Check.NONE);
        Check.due("the last thing", s.when(0, 7), Check.NONE);
        Check.sentence("Promise 14", "UNKNOWN.");
        Check.due("when(4, 0)", s.when(4, 0), Check.UNKNOWN);
        Check.due("when(-1, 0)", s.when(-1, 0), Check.UNKNOWN);
        Check.due("when(0, 8)", s.when(0, 8), Check.UNKNOWN);
        Check.due("when(0, -1)", s.when(0, -1), Check.UNKNOWN);
    }

    private static void hidden() {
        Check.sentence("Promise 15", "HIDDEN.");
        StairPortraits s = Check.stairs(TriedBounds.ROW);
        Check.due("hidden(0)", s.hidden(0), 2 + 4 + 8);
        Check.due("hidden(60)", s.hidden(60), 0);
        Check.due("no wall", new StairPortraits().hidden(0), 0);
        Check.sentence("Promise 15", "OUTSIDE.");
        Check.due("hidden(-1)", s.hidden(-1), Check.OUTSIDE);
        Check.due("hidden(61)", s.hidden(61), Check.OUTSIDE);
        Check.due("hidden(61) without a wall", new StairPortraits().hidden(61), Check.OUTSIDE);
    }

    private static void turns() {
        Check.sentence("Promise 16", "TURN: i = NONE how many, else 10 times PICTURE and way; NONE.");
        StairPortraits s = Check.stairs(TriedBounds.ROW);
        Check.due("how many", s.turns(3, 1, 0, 30, Check.NONE), 1);
        Check.due("the first", s.turns(3, 1, 0, 30, 0), 32);
        Check.due("the next", s.turns(3, 1, 0, 30, 1), Check.NONE);
        Check.due("none helps", s.turns(3, 1, 1, 30, Check.NONE), Check.NONE);
        Check.sentence("Promise 16", "UNKNOWN, OUTSIDE.");
        Check.due("p = 4", s.turns(4, 1, 0, 30, -1), Check.UNKNOWN);
        Check.due("p = -1", s.turns(-1, 1, 0, 30, -1), Check.UNKNOWN);
        Check.due("t = 8", s.turns(0, 8, 0, 30, -1), Check.UNKNOWN);
        Check.due("t = -1", s.turns(0, -1, 0, 30, -1), Check.UNKNOWN);
        Check.due("set = 16", s.turns(0, 1, 16, 30, -1), Check.UNKNOWN);
        Check.due("set = -1", s.turns(0, 1, -1, 30, -1), Check.UNKNOWN);
        Check.due("set = 15", s.turns(0, 1, 15, 30, -1), Check.NONE);
        Check.due("n = 31", s.turns(0, 1, 0, 31, -1), Check.OUTSIDE);
        Check.due("n = -1", s.turns(0, 1, 0, -1, -1), Check.OUTSIDE);
        Check.due("set = 16, n = 31", s.turns(0, 1, 16, 31, -1), Check.UNKNOWN);
    }

    private static void walled() {
        Check.sentence("Promise 17", "WALLED: what = 0 how many, 1 the SET; NONE.");
        StairPortraits s = Check.stairs(TriedBounds.ROW);
        Check.due("how many", s.walled(2, 1, 3, 0), 1);
        Check.due("the set", s.walled(2, 1, 3, 1), 1);
        Check.due("none are needed", s.walled(2, 1, 2, 0), 0);
        Check.due("none are needed: the set", s.walled(2, 1, 2, 1), 0);
        Check.due("none help", s.walled(0, 1, 1, 0), Check.NONE);
        Check.due("none help: the set", s.walled(0, 1, 1, 1), Check.NONE);
        Check.sentence("Promise 17", "UNKNOWN, OUTSIDE (n 0 .. 30).");
        Check.due("p = 4", s.walled(4, 1, 3, 0), Check.UNKNOWN);
        Check.due("p = -1", s.walled(-1, 1, 3, 0), Check.UNKNOWN);
        Check.due("t = 8", s.walled(0, 8, 3, 0), Check.UNKNOWN);
        Check.due("t = -1", s.walled(0, -1, 3, 0), Check.UNKNOWN);
        Check.due("n = 31", s.walled(3, 1, 31, 0), Check.OUTSIDE);
        Check.due("n = 30", s.walled(3, 1, 30, 0), 0);
        Check.due("n = 0", s.walled(3, 1, 0, 0), 0);
        Check.due("n = -1", s.walled(3, 1, -1, 0), Check.OUTSIDE);
        Check.due("what = 2", s.walled(3, 1, 0, 2), Check.OUTSIDE);
        Check.due("what = -1", s.walled(3, 1, 0, -1), Check.OUTSIDE);
    }

    private static void kinds() {
        Check.sentence("Promise 18", "KINDS.");
        StairPortraits s = Check.stairs(TriedBounds.ROW);
        Check.due("all six", s.kinds(3, 30, 0), 63);
        Check.due("none", s.kinds(3, 30, 255), 0);
        Check.sentence("Promise 18", "UNKNOWN, OUTSIDE (n, SET 0 .. 255).");
        Check.due("p = 4", s.kinds(4, 0, 0), Check.UNKNOWN);
        Check.due("p = -1", s.kinds(-1, 0, 0), Check.UNKNOWN);
        Check.due("n = 31", s.kinds(3, 31, 0), Check.OUTSIDE);
        Check.due("n = -1", s.kinds(3, -1, 0), Check.OUTSIDE);
        Check.due("set = 256", s.kinds(3, 0, 256), Check.OUTSIDE);
        Check.due("set = -1", s.kinds(3, 0, -1), Check.OUTSIDE);
        Check.due("p = 4, n = 31, set = 256", s.kinds(4, 31, 256), Check.UNKNOWN);
        StairPortraits knows = Check.stairs("w1 1;p0 0 0 0;s0 0;s0 1;s0 2;s0 3;s0 4;s0 5;s0 6;s0 7;");
        Check.due("set = 255", knows.kinds(0, 0, 255), 63);
    }

    private static void allOf() {
        Check.sentence("Promise 19", "ALL; NONE.");
        StairPortraits s = Check.stairs(TriedBounds.ROW);
        Check.due("nobody", s.all(0, 7), 0);
        Check.due("three", s.all(7, 1), 3);
        Check.due("all four", s.all(15, 1), Check.NONE);
        Check.sentence("Promise 19", "UNKNOWN.");
        Check.due("set = 16", s.all(16, 1), Check.UNKNOWN);
        Check.due("set = -1", s.all(-1, 1), Check.UNKNOWN);
        Check.due("t = 8", s.all(0, 8), Check.UNKNOWN);
        Check.due("t = -1", s.all(0, -1), Check.UNKNOWN);
    }

    private static void common() {
        Check.sentence("Promise 20", "COMMON.");
        StairPortraits s = Check.stairs(TriedBounds.ROW);
        Check.due("nobody", s.common(0), 255);
        Check.due("one", s.common(1), 16);
        Check.due("all four", s.common(15), 0);
        Check.sentence("Promise 20", "UNKNOWN.");
        Check.due("set = 16", s.common(16), Check.UNKNOWN);
        Check.due("set = -1", s.common(-1), Check.UNKNOWN);
    }

    private static void safe() {
        Check.sentence("Promise 21", "SAFE (q 0 .. 100).");
        StairPortraits s = new StairPortraits();
        Check.due("q = 0", s.safe(2, 0), 1000000000);
        Check.due("q = 10", s.safe(2, 10), 810000000);
        Check.due("q = 100", s.safe(2, 100), 0);
        Check.sentence("Promise 21", "OUTSIDE.");
        Check.due("q = -1", s.safe(0, -1), Check.OUTSIDE);
        Check.due("q = 101", s.safe(0, 101), Check.OUTSIDE);
        Check.due("n = -1", s.safe(-1, 0), Check.OUTSIDE);
        Check.due("n = 61", s.safe(61, 0), Check.OUTSIDE);
    }

    private static void ask() {
        Check.sentence("Promise 22", "ASKED: how much.");
        StairPortraits s = Check.stairs(NotesBounds.TWO);
        Check.due("the first", s.ask(0, 0, true), 1);
        Check.due("alike", s.ask(0, 0, true), 2);
        Check.due("against it", s.ask(0, 0, false), 3);
        Check.due("the last picture, the last thing", s.ask(3, 7, false), 4);
        Check.sentence("Promise 22", "UNKNOWN, FULL (8).");
        Check.due("p = 4", s.ask(4, 0, true), Check.UNKNOWN);
        Check.due("p = -1", s.ask(-1, 0, true), Check.UNKNOWN);
        Check.due("t = 8", s.ask(0, 8, true), Check.UNKNOWN);
        Check.due("t = -1", s.ask(0, -1, true), Check.UNKNOWN);
        for (int k = 5; k <= 8; k++) {
            Check.due("asked " + k, s.ask(1, 1, true), k);
        }
        Check.due("a ninth", s.ask(1, 1, true), Check.FULL);
        Check.due("a ninth of none", s.ask(4, 1, true), Check.UNKNOWN);
    }

    private static void came() {
        Check.sentence("Promise 23", "CAME: i = NONE how many, else the i-th; NONE: not so many.");
        StairPortraits s = Check.stairs(NotesBounds.TWO);
        s.hour(1);
        Check.due("how many", s.came(0, Check.NONE), 2);
        Check.due("the first", s.came(0, 0), 0);
        Check.due("the last", s.came(0, 1), 1);
        Check.due("not so many", s.came(0, 2), Check.NONE);
        Check.due("below NONE", s.came(0, -2), Check.NONE);
        Check.due("the first int", s.came(0, Integer.MIN_VALUE), Check.NONE);
        Check.sentence("Promise 23", "UNKNOWN.");
        Check.due("t = 8", s.came(8, -1), Check.UNKNOWN);
        Check.due("t = -1", s.came(-1, -1), Check.UNKNOWN);
        Check.due("t = 8, i = 99", s.came(8, 99), Check.UNKNOWN);
        Check.due("t = 7 without a wall", new StairPortraits().came(7, -1), 0);
        Check.due("t = 8 without a wall", new StairPortraits().came(8, -1), Check.UNKNOWN);
    }

    private static void next() {
        Check.sentence("Promise 24", "ASK; NONE.");
        StairPortraits s = Check.stairs(NotesBounds.TWO);
        Check.due("no hours", s.next(0), Check.NONE);
        s.hour(3);
        Check.due("three hours", s.next(0), 0);
        Check.due("the last thing", s.next(7), 0);
        Check.sentence("Promise 24", "UNKNOWN.");
        Check.due("t = 8", s.next(8), Check.UNKNOWN);
        Check.due("t = -1", s.next(-1), Check.UNKNOWN);
    }

    private static void write() {
        Check.sentence("Promise 25", "An entry behind THE BOOK (a SET 0 .. 255): how many.");
        StairPortraits s = Check.stairs(NotesBounds.TWO);
        Check.due("set = 0", s.write(0, 0), 1);
        Check.due("set = 255", s.write(3, 255), 2);
        Check.due("behind the first: that one is right", s.judge(), 1);
        Check.sentence("Promise 25", "UNKNOWN, OUTSIDE, FULL (15).");
        Check.due("p = 4", s.write(4, 0), Check.UNKNOWN);
        Check.due("p = -1", s.write(-1, 0), Check.UNKNOWN);
        Check.due("set = 256", s.write(0, 256), Check.OUTSIDE);
        Check.due("set = -1", s.write(0, -1), Check.OUTSIDE);
        for (int k = 3; k <= 15; k++) {
            Check.due("entry " + k, s.write(0, 0), k);
        }
        Check.due("entry 16", s.write(0, 0), Check.FULL);
        Check.due("entry 16, set = 256", s.write(0, 256), Check.OUTSIDE);
        Check.due("entry 16, p = 4", s.write(4, 256), Check.UNKNOWN);
        Check.due("entries", s.told(10), 15);
    }

    private static void tear() {
        Check.sentence("Promise 26", "Nothing ASKED, THE BOOK is empty: how many both had.");
        StairPortraits s = Check.stairs(NotesBounds.TWO);
        Check.due("nothing", s.tear(), 0);
        s.hour(2);
        for (int k = 0; k < 8; k++) {
            s.ask(0, 0, false);
        }
        for (int k = 0; k < 15; k++) {
            s.write(0, 255);
        }
        Check.due("all of it", s.tear(), 8 + 15);
        Check.due("nothing asked", s.told(9), 0);
        Check.due("no book", s.told(10), 0);
        Check.due("all ways fit again", s.came(0, -1), 4);
        Check.due("nothing is wrong", s.judge(), Check.NONE);
        Check.due("again", s.tear(), 0);
        Check.due("asked anew", s.ask(0, 0, true), 1);
        Check.due("asked alone", s.tear(), 1);
        Check.due("written anew", s.write(0, 0), 1);
        Check.due("written alone", s.tear(), 1);
    }

    private static void judge() {
        Check.sentence("Promise 27", "WRONG; NONE.");
        StairPortraits s = Check.stairs(NotesBounds.TWO);
        Check.due("no book", s.judge(), Check.NONE);
        s.write(3, 4);
        Check.due("right", s.judge(), Check.NONE);
        s.write(3, 0);
        Check.due("wrong", s.judge(), 1);
        Check.due("wrong again", s.judge(), 1);
        Check.due("no wall", new StairPortraits().judge(), Check.NONE);
    }

    private static void seed() {
        Check.sentence("Promise 28", "THE SEED becomes v (0 .. 2147483647): what it was.");
        StairPortraits s = new StairPortraits();
        Check.due("at first", s.seed(2147483647), 0);
        Check.due("the greatest", s.seed(0), 2147483647);
        Check.due("the least", s.seed(1), 0);
        Check.sentence("Promise 28", "OUTSIDE.");
        Check.due("seed(-1)", s.seed(-1), Check.OUTSIDE);
        Check.due("the first int", s.seed(Integer.MIN_VALUE), Check.OUTSIDE);
        Check.due("it is as it was", s.seed(0), 1);
    }

    private static void keep() {
        Check.sentence("Promise 29", "IMAGE i becomes what is so: 1.");
        StairPortraits s = Check.stairs(NotesBounds.TWO);
        Check.due("keep(0)", s.keep(0), 1);
        s.hour(1);
        Check.due("keep(1)", s.keep(1), 1);
        s.hour(1);
        Check.due("nothing is changed by it", s.told(6), 2);
        s.goBack(0);
        Check.due("image 0", s.told(6), 0);
        s.goBack(1);
        Check.due("image 1", s.told(6), 1);
        Check.due("keep(0) again", s.keep(0), 1);
        s.goBack(0);
        Check.due("image 0 anew", s.told(6), 1);
        Check.due("no wall", new StairPortraits().keep(0), 1);
        Check.sentence("Promise 29", "UNKNOWN.");
        Check.due("keep(2)", s.keep(2), Check.UNKNOWN);
        Check.due("keep(-1)", s.keep(-1), Check.UNKNOWN);
    }

    private static void goBack() {
        Check.sentence("Promise 30", "What is so becomes IMAGE i: 1.");
        StairPortraits s = Check.stairs(NotesBounds.TWO);
        s.keep(1);
        s.hour(5);
        s.ask(0, 0, true);
        s.write(0, 0);
        Check.feed(s, "w1");
        Check.due("goBack(1)", s.goBack(1), 1);
        Check.due("hours", s.told(6), 0);
        Check.due("what was asked is no part of it", s.told(9), 1);
        Check.due("the book is no part of it", s.told(10), 1);
        Check.due("the text is no part of it", s.told(5), 2);
        s.hour(1);
        s.turn(0, 0);
        Check.due("the image is as it was kept: goBack(1) again", s.goBack(1), 1);
        Check.due("its ways", s.picture(0, 3), 2);
        Check.due("its hours", s.told(6), 0);
        Check.sentence("Promise 30", "UNKNOWN, NOT: it was not kept.");
        Check.due("goBack(0)", s.goBack(0), Check.NOT);
        Check.due("goBack(2)", s.goBack(2), Check.UNKNOWN);
        Check.due("goBack(-1)", s.goBack(-1), Check.UNKNOWN);
        s.keep(0);
        Check.due("goBack(0) when it was kept", s.goBack(0), 1);
    }
}
