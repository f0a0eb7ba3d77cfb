/** Section 3 of "Terms", sentence by sentence: what is asked, written, drawn and kept. */
final class NotesBounds {
    private static final String SECTION = "Section 3";
    /** Door 0 with pictures 0 and 1 (a profile) in a row, door 1 with pictures 2 and 3 in a row. */
    static final String TWO = "w7 1;d0 0;p0 1 0 2;p2 2 0 2;d6 0;p0 5 0 0;p0 4 0 0;e0 0 2;s3 2;";
    private static final String ONE_DOOR = "w5 1;d0 0;p0 1 0 2;p0 2 0 2;p0 3 0 2;";
    /** The seed that 0 becomes, and the five behind it. */
    static final int[] SEEDS = {12345, 1406932606, 654583775, 1449466924, 229283573, 1109335178};

    private NotesBounds() {
    }

    static void all() {
        asked();
        cameHours();
        cameOnceMore();
        cameWays();
        askBest();
        askNone();
        cameOfEight();
        book();
        draws();
        drawsLeftOver();
        drawsWithoutPictures();
        dusted();
        images();
    }

    private static void asked() {
        Check.sentence(SECTION, "ASKED (8 at most): a PICTURE knows a THING now (or does not).");
        StairPortraits s = Check.stairs(TWO);
        for (int k = 1; k <= 8; k++) {
            Check.due("asked " + k, s.ask(3, 7, k % 2 == 0), k);
        }
        Check.due("a ninth", s.ask(3, 7, true), Check.FULL);
        Check.due("still eight", s.told(9), 8);
        s.tear();
        s.hour(2);
        s.ask(0, 0, true);
        Check.due("it knows", s.came(0, -1), 2);
        s.tear();
        s.ask(0, 0, false);
        Check.due("it does not", s.came(0, -1), 2);
        Check.due("it does not: by the other door", s.came(0, 0), 1);
    }

    private static void cameHours() {
        Check.sentence(SECTION, "CAME: (hour 0 to 60, but less than HOURS, DOOR):");
        StairPortraits s = Check.stairs(TWO);
        Check.due("behind no hour", s.came(0, -1), 0);
        Check.due("behind no hour, the first", s.came(0, 0), Check.NONE);
        s.hour(1);
        Check.due("behind one hour", s.came(0, -1), 2);
        Check.due("behind one hour, the last", s.came(0, 1), 1);
        s.hour(59);
        Check.due("behind 60", s.came(0, -1), 120);
        Check.due("behind 60, the last", s.came(0, 119), 591);
        s.hour(1);
        Check.due("behind 61", s.came(0, -1), 122);
        Check.due("behind 61, the last", s.came(0, 121), 601);
        s.hour(1);
        Check.due("behind 62", s.came(0, -1), 122);
        Check.due("behind 62, none more", s.came(0, 122), Check.NONE);
        s.hour(60);
        Check.due("behind 122", s.came(0, -1), 122);
        Check.due("no door", behindHours("w1 1;p0 0 0 0;", 9).came(0, -1), 0);
        Check.due("four doors", behindHours("w4 1;d0 0;d1 0;d2 0;d3 0;", 1).came(0, 3), 3);
    }

    private static StairPortraits behindHours(String text, int n) {
        StairPortraits s = Check.stairs(text);
        s.hour(n);
        return s;
    }

    private static void cameOnceMore() {
        Check.sentence(SECTION, "THE HOURS that were are gone through once more from 0, the THING coming by that DOOR at that hour alone,"
            + " nobody knowing it at first, all hanging, looking, turned to the wall as now:");
        StairPortraits alone = behindHours(TWO, 3);
        alone.ask(0, 2, false);
        Check.due("that it came at hour 0 does not count", alone.came(2, -1), 3);
        StairPortraits first = behindHours(TWO, 3);
        first.ask(3, 2, false);
        Check.due("that 3 knew it at first does not count", first.came(2, -1), 4);
        Check.due("by door 1 in the last hour only", first.came(2, 3), 21);
        StairPortraits last = behindHours(TWO, 3);
        last.ask(2, 2, true);
        last.ask(3, 2, false);
        Check.due("one hour is too short for two", last.came(2, -1), 1);
        Check.due("the last of the hours that were", last.came(2, 0), 21);
        StairPortraits turned = behindHours(TWO, 3);
        turned.turn(0, 3);
        turned.ask(0, 2, true);
        Check.due("it looks away now", turned.came(2, -1), 0);
        StairPortraits hung = behindHours(TWO, 3);
        hung.wall(0, true);
        hung.ask(1, 2, true);
        Check.due("0 is turned to the wall now", hung.came(2, -1), 0);
        hung.tear();
        hung.wall(0, false);
        hung.hang(1, 3, 0);
        hung.hang(0, 2, 0);
        hung.ask(0, 2, true);
        Check.due("hung elsewhere it still sees the door", hung.came(2, -1), 3);
        StairPortraits far = behindHours(TWO, 60);
        far.hour(60);
        far.ask(3, 2, false);
        Check.due("behind 120 hours 3 would know it", far.came(2, -1), 61);
    }

    private static void cameWays() {
        Check.sentence(SECTION, "ways by which all that was ASKED of the THING is so: how many; the i-th (hour by hour):"
            + " 10 times the hour and the DOOR; NONE.");
        StairPortraits s = behindHours(TWO, 3);
        int[] ways = {0, 1, 10, 11, 20, 21};
        for (int i = 0; i < ways.length; i++) {
            Check.due("way " + i, s.came(4, i), ways[i]);
        }
        Check.due("one too many", s.came(4, 6), Check.NONE);
        Check.due("the last int", s.came(4, Integer.MAX_VALUE), Check.NONE);
        Check.due("below NONE", s.came(4, -2), Check.NONE);
        s.ask(1, 4, true);
        Check.due("a profile of an even thing", s.came(4, -1), 2);
        s.ask(1, 5, true);
        Check.due("a profile of an odd thing", s.came(5, -1), 0);
        Check.due("a profile of an odd thing, the first", s.came(5, 0), Check.NONE);
        Check.due("of the other thing it is as it was", s.came(4, -1), 2);
        Check.due("of a thing that was not asked", s.came(6, -1), 6);
        s.ask(2, 4, true);
        Check.due("all of it, not some", s.came(4, -1), 0);
        StairPortraits fake = behindHours("w3 1;d0 0;p4 1 0 2;p0 2 0 2;", 5);
        fake.ask(0, 0, true);
        Check.due("a fake knows", fake.came(0, -1), 5);
        fake.ask(1, 0, true);
        Check.due("a fake tells nobody", fake.came(0, -1), 0);
    }

    private static void askBest() {
        Check.sentence(SECTION, "ASK: the PICTURE by which these ways are told apart best: the greatest part that it would answer alike is least;"
            + " of like ones the least;");
        StairPortraits s = behindHours(ONE_DOOR, 4);
        Check.due("4 and 0, 3 and 1, 2 and 2", s.next(0), 2);
        StairPortraits two = behindHours(ONE_DOOR, 3);
        Check.due("3 and 0, 2 and 1, 1 and 2: the lesser", two.next(0), 1);
        StairPortraits three = behindHours(ONE_DOOR, 2);
        Check.due("2 and 0, 1 and 1, 0 and 2", three.next(0), 1);
        Check.due("half and half by 0 and by 2", behindHours(TWO, 3).next(2), 0);
        StairPortraits asked = behindHours(TWO, 3);
        asked.ask(0, 2, false);
        Check.due("those that fit alone count", asked.next(2), 3);
    }

    private static void askNone() {
        Check.sentence(SECTION, "NONE: none parts them.");
        Check.due("no ways", Check.stairs(ONE_DOOR).next(0), Check.NONE);
        StairPortraits one = behindHours(ONE_DOOR, 1);
        Check.due("one way", one.next(0), Check.NONE);
        StairPortraits all = behindHours("w2 1;d0 0;p0 1 0 2;", 9);
        Check.due("all would be answered alike: it knows", all.next(0), Check.NONE);
        all.turn(0, 0);
        Check.due("all would be answered alike: it does not", all.next(0), Check.NONE);
        StairPortraits none = behindHours(TWO, 9);
        none.ask(0, 2, true);
        none.ask(0, 2, false);
        Check.due("no way fits", none.next(2), Check.NONE);
        Check.due("nobody hangs there", behindHours("w1 1;d0 0;", 9).next(0), Check.NONE);
    }

    private static void cameOfEight() {
        Check.sentence(SECTION, "the PICTURE by which these ways are told apart best:");
        StairPortraits s = behindHours(TriedBounds.CHAIN, 14);
        Check.due("14 ways", s.came(1, -1), 14);
        Check.due("the eighth of eight knows of the first seven", s.next(1), 7);
        s.ask(7, 1, true);
        Check.due("the seven", s.came(1, -1), 7);
        Check.due("the last of the seven", s.came(1, 6), 60);
        Check.due("nobody knows of those apart", s.next(1), Check.NONE);
        s.ask(7, 1, false);
        Check.due("none", s.came(1, -1), 0);
    }

    private static void book() {
        Check.sentence(SECTION, "THE BOOK (15 at most) tells what PICTURES know (SETS of THINGS): WRONG: the first that is otherwise now; NONE.");
        StairPortraits s = Check.stairs(TWO);
        Check.due("an empty book", s.judge(), Check.NONE);
        for (int k = 1; k <= 14; k++) {
            Check.due("entry " + k, s.write(3, 4), k);
        }
        Check.due("fourteen that are right", s.judge(), Check.NONE);
        Check.due("entry 15", s.write(3, 5), 15);
        Check.due("entry 16", s.write(3, 6), Check.FULL);
        Check.due("the last is wrong", s.judge(), 14);
        StairPortraits first = Check.stairs(TWO);
        first.write(0, 4);
        first.write(0, 0);
        first.write(2, 255);
        Check.due("the first of two that are wrong", first.judge(), 0);
        first.hour(1);
        Check.due("now the first is right, the next is wrong", first.judge(), 1);
        StairPortraits part = Check.stairs(TWO);
        part.write(3, 0);
        Check.due("less than it knows is wrong", part.judge(), 0);
    }

    private static void draws() {
        Check.sentence(SECTION, "BY DRAWS: THE SEED (0 at first: each DRAW it becomes it times 1103515245 and 12345,");
        Check.due("the seed at first", new StairPortraits().seed(0), 0);
        // 12345 and 654583775 dust a picture, which takes a second draw; 229283573 and 1109335178 do not.
        int[] behind = {0, SEEDS[1], SEEDS[3], SEEDS[4], SEEDS[5]};
        for (int hours = 1; hours <= 4; hours++) {
            StairPortraits s = Check.stairs("w1 1;p0 0 0 0;");
            s.drift(hours);
            Check.due("the seed behind " + hours, s.seed(0), behind[hours]);
        }
    }

    private static void drawsLeftOver() {
        Check.sentence(SECTION, "left over by 2 to the 31; the DRAW of n is it / 65536, left over by n):");
        StairPortraits s = Check.stairs("w1 1;p0 0 0 0;");
        s.seed(2147483647);
        s.drift(1);
        Check.due("the seed behind the greatest", s.seed(0), 1043980748);
        // What the seed is, what it becomes, and whether that dusts: 0, 65535, 65536, 4 * 65536 - 1, 4 * 65536, 2 to the 31 less 1.
        int[] seeds = {2088216195, 2032319262, 1742513795, 995212062, 705406595, 230538014};
        int[] ways = {1, 1, 0, 0, 1, 0};
        for (int k = 0; k < seeds.length; k++) {
            StairPortraits one = Check.stairs("w1 1;p0 0 0 0;");
            one.seed(seeds[k]);
            one.drift(1);
            Check.due("the way by seed " + seeds[k], one.picture(0, 3), ways[k]);
        }
        // By seed 0 the draw of 4 is 0, the draw of pictures 21468, left over by how many there are.
        int[] dusted = {0, 0, 0, 0, 3, 0, 6, 4};
        for (int n = 1; n <= 8; n++) {
            StringBuilder text = new StringBuilder("w7 7;");
            for (int p = 0; p < n; p++) {
                text.append("p0 ").append(p % 7).append(' ').append(p / 7).append(" 0;");
            }
            StairPortraits many = Check.stairs(text.toString());
            many.drift(1);
            for (int p = 0; p < n; p++) {
                Check.due("way of " + p + " of " + n, many.picture(p, 3), p == dusted[n - 1] ? 1 : 0);
            }
        }
    }

    private static void drawsWithoutPictures() {
        Check.sentence(SECTION, "n HOURS: ahead of each a DRAW of 4: on 0 a DRAW of PICTURES (if there are any) is dusted:");
        StairPortraits none = Check.stairs("w1 1;");
        none.drift(3);
        Check.due("no pictures: one draw an hour", none.seed(0), SEEDS[2]);
        StairPortraits ahead = Check.stairs("w2 1;p0 0 0 3;d1 0;e0 0 5;");
        ahead.drift(1);
        Check.due("dusted ahead of the hour, it sees the door in it", ahead.picture(0, 4), 32);
        StairPortraits three = Check.stairs("w1 1;p0 0 0 0;");
        three.seed(SEEDS[3]);
        three.drift(1);
        Check.due("on 2 nobody is dusted", three.picture(0, 3), 0);
        Check.due("on 2 one draw", three.seed(0), SEEDS[4]);
    }

    private static void dusted() {
        Check.sentence(SECTION, "it looks one quarter further round.");
        for (int way = 0; way < 4; way++) {
            StairPortraits s = Check.stairs("w3 3;d2 1;d1 2;d0 1;d1 0;p0 1 1 " + way + ";");
            s.drift(1);
            Check.due("dusted from " + way, s.picture(0, 3), (way + 1) % 4);
            Check.due("dusted from " + way + " it looks at", s.picture(0, 5), 10 + (way + 1) % 4);
        }
        StairPortraits s = Check.stairs("w2 1;d1 0;p0 0 0 3;");
        s.wall(0, true);
        s.drift(1);
        Check.due("turned to the wall it is dusted, too", s.picture(0, 3), 0);
        Check.due("but looks at nothing", s.picture(0, 5), Check.NONE);
        StairPortraits twice = Check.stairs("w1 1;p5 0 0 3;");
        twice.drift(2);
        Check.due("a mirror, twice", twice.picture(0, 3), 1);
    }

    private static void images() {
        Check.sentence(SECTION, "IMAGES 0, 1 keep where PICTURES hang, which way they look, what they know, who is turned to the wall, HOURS, THE SEED.");
        for (int i = 0; i < 2; i++) {
            StairPortraits s = Check.stairs(TWO);
            s.hour(1);
            s.wall(3, true);
            s.seed(9);
            s.keep(i);
            s.hang(0, 3, 0);
            s.turn(1, 3);
            s.wall(3, false);
            s.wall(2, true);
            s.drift(7);
            s.seed(8);
            Check.due("goBack(" + i + ")", s.goBack(i), 1);
            Check.due("where it hangs", s.picture(0, 1), 1);
            Check.due("what is on that cell", s.on(1, 0), 0);
            Check.due("where it hung", s.on(3, 0), Check.NONE);
            Check.due("which way it looks", s.picture(1, 3), 2);
            Check.due("what it looks at", s.picture(0, 5), 10);
            Check.due("what it knows", s.picture(0, 4), 4);
            Check.due("what others know", s.told(8), 4);
            Check.due("what 1 knows", s.picture(1, 4), 0);
            Check.due("who is turned to the wall", s.told(7), 8);
            Check.due("hours", s.told(6), 1);
            Check.due("the seed", s.seed(0), 9);
        }
        Check.due("no image 2", Check.stairs(TWO).keep(2), Check.UNKNOWN);
        Check.due("no image -1", Check.stairs(TWO).keep(-1), Check.UNKNOWN);
    }
}
