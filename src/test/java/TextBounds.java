/** Section 1 of "Terms", sentence by sentence: the text of the house and its faults. */
final class TextBounds {
    private static final String SECTION = "Section 1";
    private static final String PICTURES = "p0 0 0 0;p0 1 0 0;p0 2 0 0;p0 3 0 0;p0 0 1 0;p0 1 1 0;p0 2 1 0;p0 3 1 0;";
    private static final String DOORS = "d0 6;d1 6;d2 6;d3 6;";
    private static final String COMINGS = "e0 0 0;".repeat(8);
    private static final String FIRSTS = "s0 0;s0 1;s0 2;s0 3;s0 4;s0 5;s0 6;s0 7;";

    private TextBounds() {
    }

    static void all() {
        letters();
        wall();
        pictures();
        doors();
        comings();
        firsts();
        figures();
        words();
        blanks();
        numbersSideBySide();
        firstFault();
        leastFault();
        misplaced();
        numbersOutOfBounds();
        cellsBeyond();
        notToldYet();
        tooMany();
        cellsTaken();
        firstsOfNone();
        emptyText();
    }

    private static void letters() {
        Check.sentence(SECTION, "(240 letters at most):");
        String most = "w1 1;" + " ".repeat(235);
        StairPortraits s = new StairPortraits();
        Check.feed(s, most);
        Check.due("240 letters", s.told(5), 240);
        Check.due("a 241st", s.feed(' '), Check.FULL);
        Check.due("house() of 240 letters", s.house(), 0);
        Check.due("the wall of 240 letters", s.told(0), 1);
    }

    private static void wall() {
        Check.sentence(SECTION, "'w' W H ';' (THE WALL: CELLS X 0 .. W less 1, Y 0 .. H less 1; W, H 1 .. 7; first, once)");
        Check.fault("w0 1;", 2, 1);
        Check.fault("w8 1;", 2, 1);
        Check.fault("w1 0;", 2, 3);
        Check.fault("w1 8;", 2, 3);
        for (int k = 1; k <= 7; k++) {
            sides(k, 8 - k);
        }
        Check.fault("d0 0;w1 1;", 1, 0);
        Check.fault("w1 1;w1 1;", 3, 5);
        Check.fault("w1 1;d0 0;w1 1;", 3, 10);
    }

    private static void sides(int w, int h) {
        StairPortraits s = Check.stairs("w" + w + " " + h + ";");
        String of = " of a wall of " + w + " by " + h;
        Check.due("W" + of, s.told(0), w);
        Check.due("H" + of, s.told(1), h);
        Check.due("the first cell" + of, s.on(0, 0), Check.NONE);
        Check.due("the last cell" + of, s.on(w - 1, h - 1), Check.NONE);
        Check.due("X beyond" + of, s.on(w, h - 1), Check.UNKNOWN);
        Check.due("Y beyond" + of, s.on(w - 1, h), Check.UNKNOWN);
        Check.due("X ahead" + of, s.on(-1, 0), Check.UNKNOWN);
        Check.due("Y ahead" + of, s.on(0, -1), Check.UNKNOWN);
    }

    private static void pictures() {
        Check.sentence(SECTION, "'p' K X Y D ';' (8 PICTURES at most: of KIND K 0 .. 5, on a CELL that is free,"
            + " looks to D 0 right, 1 down, 2 left, 3 up)");
        Check.good("w7 7;" + PICTURES, 8);
        Check.fault("w7 7;" + PICTURES + "p0 6 6 0;", 3, 77);
        for (int kind = 0; kind <= 5; kind++) {
            StairPortraits s = Check.stairs("w2 2;p" + kind + " 1 0 3;");
            Check.due("kind " + kind, s.picture(0, 0), kind);
            Check.due("X", s.picture(0, 1), 1);
            Check.due("Y", s.picture(0, 2), 0);
            Check.due("D", s.picture(0, 3), 3);
        }
        Check.fault("w2 2;p6 1 0 3;", 2, 6);
        int[] seen = {10, 11, 12, 13};
        for (int way = 0; way <= 3; way++) {
            StairPortraits s = Check.stairs("w3 3;d2 1;d1 2;d0 1;d1 0;p0 1 1 " + way + ";");
            Check.due("looks to " + way, s.picture(0, 5), seen[way]);
        }
        Check.fault("w3 3;p0 1 1 4;", 2, 12);
        Check.fault("w2 2;p0 1 1 0;p0 1 1 0;", 4, 19);
    }

    private static void doors() {
        Check.sentence(SECTION, "'d' X Y ';' (4 DOORS at most, on CELLS that are free)");
        StairPortraits s = Check.stairs("w7 7;" + DOORS);
        Check.due("four doors", s.told(3), 4);
        Check.due("the fourth", s.on(3, 6), 13);
        Check.fault("w7 7;" + DOORS + "d4 6;", 3, 25);
        Check.fault("w7 7;d0 6;d0 6;", 4, 13);
        Check.fault("w7 7;p0 0 6 0;d0 6;", 4, 17);
    }

    private static void comings() {
        Check.sentence(SECTION, "'e' H D T ';' (8 COMINGS at most: at hour H 0 .. 30 by DOOR D told ahead comes THING T 0 .. 7)");
        StairPortraits s = Check.stairs("w1 2;d0 0;e0 0 0;e30 0 7;");
        Check.due("hour 0", s.coming(0, 0), 0);
        Check.due("thing 0", s.coming(0, 2), 0);
        Check.due("hour 30", s.coming(1, 0), 30);
        Check.due("thing 7", s.coming(1, 2), 7);
        Check.fault("w1 2;d0 0;e31 0 0;", 2, 11);
        Check.fault("w1 2;d0 0;e0 0 8;", 2, 15);
        Check.fault("w1 2;e0 0 0;d0 0;", 2, 8);
        Check.fault("w1 2;d0 0;e0 1 0;d0 1;", 2, 13);
        Check.good("w1 2;d0 0;d0 1;e0 1 0;", 0);
        Check.due("eight comings, all alike", Check.stairs("w7 7;d0 0;" + COMINGS).told(4), 8);
        Check.fault("w7 7;d0 0;" + COMINGS + "e0 0 0;", 3, 66);
    }

    private static void firsts() {
        Check.sentence(SECTION, "'s' P T ';' (8 at most: PICTURE P told ahead knows THING T at first; each two once).");
        StairPortraits s = Check.stairs("w2 1;p0 0 0 3;p0 1 0 3;s0 0;s1 7;s0 7;");
        Check.due("what 0 knows at first", s.picture(0, 4), 129);
        Check.due("what 1 knows at first", s.picture(1, 4), 128);
        Check.fault("w2 1;s0 0;p0 0 0 3;", 2, 6);
        Check.fault("w2 1;p0 0 0 3;s1 0;p0 1 0 3;", 2, 15);
        Check.fault("w2 1;p0 0 0 3;s0 8;", 2, 17);
        Check.fault("w2 1;p0 0 0 3;s0 5;s0 5;", 4, 22);
        Check.good("w1 1;p0 0 0 0;" + FIRSTS, 1);
        Check.fault("w2 1;p0 0 0 0;p0 1 0 0;" + FIRSTS + "s1 0;", 3, 63);
    }

    private static void figures() {
        Check.sentence(SECTION, "NUMBERS have one to three figures;");
        StairPortraits s = Check.stairs("w2 03;d000 001;e030 00 007;");
        Check.due("03", s.told(1), 3);
        Check.due("000 001", s.on(0, 1), 10);
        Check.due("030", s.coming(0, 0), 30);
        Check.due("007", s.coming(0, 2), 7);
        Check.fault("w;", 1, 1);
        Check.fault("w0002 3;", 2, 1);
        Check.fault("w2 0003;", 2, 3);
    }

    private static void words() {
        Check.sentence(SECTION, "a word is one letter;");
        Check.fault("ww1 1;", 1, 1);
        Check.fault("w1 1;pd0 0;", 1, 6);
        Check.fault("w1 1;pp0 0 0 0;", 1, 6);
        Check.fault("W1 1;", 1, 0);
        Check.good("w1 1;p0 0 0 0;", 1);
    }

    private static void blanks() {
        Check.sentence(SECTION, "blanks (32) may stand anywhere but within NUMBERS;");
        Check.good("  w  7   7  ;  p  0  6  6  3  ;  d  0  0  ;  e  30  0  7  ;  s  0  7  ;  ", 1);
        Check.good("w7 7;p0 6 6 3;d0 0;e30 0 7;s0 7;", 1);
        Check.fault("w1 1;d0 0;e3 0 0 0;", 1, 17);
        Check.fault("w1 1 1;", 1, 5);
        for (int letter = 0; letter <= 255; letter++) {
            boolean figure = letter >= '0' && letter <= '9';
            if (letter != ' ' && !figure) {
                Check.fault("w1" + (char) letter + "1;", 1, 2);
            }
        }
    }

    private static void numbersSideBySide() {
        Check.sentence(SECTION, "two NUMBERS side by side need one.");
        Check.fault("w11;", 2, 1);
        Check.fault("w1 1;d00;", 1, 8);
        Check.fault("w1 1;p0 00 0;", 1, 12);
        Check.good("w1 1;d0 0;", 0);
    }

    private static void firstFault() {
        Check.sentence(SECTION, "FAULTS, at the first letter that has one (the end at the text's length),");
        Check.fault("w8 1x", 2, 1);
        Check.fault("w2 2;p0 0 0 0;d0 0;x", 4, 17);
        Check.fault("w2 2;w2 2;x", 3, 5);
        Check.fault("w2 2;d0 5;w;", 2, 8);
        Check.fault("w2 2;x;w", 1, 5);
        Check.fault("w", 1, 1);
        Check.fault("w1", 1, 2);
        Check.fault("w1 ", 1, 3);
        Check.fault("w1 1", 1, 4);
        Check.fault("w1 1;p", 1, 6);
        Check.fault("w1 1;p0 0 0 0", 1, 13);
        Check.fault("w1 1;d0 0;e", 1, 11);
        Check.fault("w1 1;p0 0 0 0;s0 ", 1, 17);
        Check.fault("w1 1" + " ".repeat(236), 1, 240);
    }

    private static void leastFault() {
        Check.sentence(SECTION, "of these the least:");
        Check.fault("w1 1w", 1, 4);
        Check.fault("w1 w", 1, 3);
        Check.fault("w1 1 9999;", 1, 5);
        String unclosed = "w7 7;" + PICTURES.substring(0, PICTURES.length() - 1);
        Check.fault(unclosed + "p0 6 6 0;", 1, 76);
        Check.fault("w7 7;" + DOORS.substring(0, DOORS.length() - 1) + "d4 6;", 1, 24);
    }

    private static void misplaced() {
        Check.sentence(SECTION, "1 it cannot stand there (a letter that is no word, another word first than 'w').");
        for (int letter = 0; letter <= 255; letter++) {
            String one = String.valueOf((char) letter);
            if (letter != ' ' && letter != 'w') {
                Check.fault(one, 1, 0);
            }
            if ("wpdes ".indexOf(letter) < 0) {
                Check.fault("w1 1;" + one, 1, 5);
            }
            if ("0123456789 ".indexOf(letter) < 0) {
                Check.fault("w" + one + "1 1;", 1, 1);
            }
            if ("0123456789; ".indexOf(letter) < 0) {
                Check.fault("w1 1" + one, 1, 4);
            }
        }
        for (String word : new String[] {"p0 0 0 0;", "d0 0;", "e0 0 0;", "s0 0;"}) {
            Check.fault(word, 1, 0);
            Check.fault("  " + word, 1, 2);
        }
    }

    private static void numbersOutOfBounds() {
        Check.sentence(SECTION, "2 a NUMBER of four figures or more, or out of its bounds;");
        Check.fault("w1000 1;", 2, 1);
        Check.fault("w999 1;", 2, 1);
        Check.fault("w1 00001;", 2, 3);
        Check.fault("w 4294967297 1;", 2, 2);
        Check.fault("w18446744073709551617 1;", 2, 1);
        Check.fault("w1 1;p0000 0 0 0;", 2, 6);
        Check.fault("w1 1;p  6 0 0 0;", 2, 8);
        Check.fault("w1 1;p0 0 0 0000;", 2, 12);
        Check.fault("w1 1;p0 0 0 4;", 2, 12);
        Check.fault("w1 1;d0 0;e31 0 0;", 2, 11);
        Check.fault("w1 1;d0 0;e0030 0 0;", 2, 11);
        Check.fault("w1 1;d0 0;e0 0 8;", 2, 15);
        Check.fault("w1 1;p0 0 0 0;s0 8;", 2, 17);
        Check.fault("w1 1;p0 0 0 0;s0 0000;", 2, 17);
    }

    private static void cellsBeyond() {
        Check.sentence(SECTION, "a CELL that there is not (at the X, the Y that is beyond),");
        Check.good("w3 2;p0 2 1 0;", 1);
        Check.fault("w3 2;p0 3 1 0;", 2, 8);
        Check.fault("w3 2;p0 2 2 0;", 2, 10);
        Check.fault("w3 2;p0 3 2 0;", 2, 8);
        Check.good("w3 2;d2 1;", 0);
        Check.fault("w3 2;d3 1;", 2, 6);
        Check.fault("w3 2;d2 2;", 2, 8);
        Check.fault("w3 2;d3 2;", 2, 6);
        Check.fault("w7 7;d6 007;", 2, 8);
    }

    private static void notToldYet() {
        Check.sentence(SECTION, "a DOOR, PICTURE that was not told yet (at its first).");
        Check.fault("w7 7;e0 0 0;", 2, 8);
        Check.fault("w7 7;e0 012 0;d0 0;", 2, 8);
        Check.fault("w7 7;" + DOORS + "e0 4 0;", 2, 28);
        Check.good("w7 7;" + DOORS + "e0 3 0;", 0);
        Check.fault("w7 7;s0 0;", 2, 6);
        Check.fault("w7 7;p0 0 0 0;s 001 0;p0 1 0 0;", 2, 16);
        Check.fault("w7 7;" + PICTURES + "s8 0;", 2, 78);
        Check.good("w7 7;" + PICTURES + "s7 0;", 8);
    }

    private static void tooMany() {
        Check.sentence(SECTION, "3 'w' again, a ninth 'p', 'e', 's', a fifth 'd' (at it).");
        Check.fault("w7 7;w", 3, 5);
        Check.fault("w7 7;  w", 3, 7);
        Check.fault("w7 7;" + PICTURES + "p", 3, 77);
        Check.fault("w7 7;d0 0;" + COMINGS + "e", 3, 66);
        Check.fault("w7 7;p0 0 0 0;" + FIRSTS + "s", 3, 54);
        Check.fault("w7 7;" + DOORS + "d", 3, 25);
        Check.fault("w7 7;" + DOORS + " dd", 3, 26);
    }

    private static void cellsTaken() {
        Check.sentence(SECTION, "4 a CELL that is not free (at the Y);");
        Check.fault("w2 2;p0 1 0 0;p0 1 0 0;", 4, 19);
        Check.fault("w2 2;d1 0;p0 1 0 0;", 4, 15);
        Check.fault("w2 2;p0 1 0 0;d1 0;", 4, 17);
        Check.fault("w2 2;d1 0;d1 0;", 4, 13);
        Check.fault("w2 2;d1 0;p0 1 000 9;", 4, 15);
        Check.fault("w2 2;d1 0;d1  00;", 4, 14);
        Check.good("w2 2;d1 0;d0 1;p0 0 0 0;p3 1 1 0;", 2);
    }

    private static void firstsOfNone() {
        Check.sentence(SECTION, "'s' of a LANDSCAPE, a MIRROR (at the P), of both again (at the T).");
        Check.fault("w2 2;p3 0 0 0;s0 0;", 4, 15);
        Check.fault("w2 2;p5 0 0 0;s0 0;", 4, 15);
        Check.fault("w2 2;p5 0 0 0;s 000 9;", 4, 16);
        for (int kind : new int[] {0, 1, 2, 4}) {
            Check.good("w2 2;p" + kind + " 0 0 0;s0 7;", 1);
        }
        Check.fault("w2 2;p0 0 0 0;s0 7;s0 7;", 4, 22);
        Check.fault("w2 2;p0 0 0 0;s0 7;s0 007;", 4, 22);
        Check.good("w2 2;p0 0 0 0;p0 1 0 0;s0 7;s0 6;s1 7;", 2);
    }

    private static void emptyText() {
        Check.sentence(SECTION, "An empty text: no WALL.");
        StairPortraits s = Check.stairs("w7 7;" + PICTURES + DOORS + "e0 0 0;s0 0;");
        Check.due("house() of an empty text", s.house(), 0);
        Check.due("its fault", s.fault(), Check.NONE);
        for (int what = 0; what <= 10; what++) {
            Check.due("told(" + what + ")", s.told(what), 0);
        }
        Check.due("no cell", s.on(0, 0), Check.UNKNOWN);
        Check.due("no picture", s.picture(0, 0), Check.UNKNOWN);
        Check.due("no coming", s.coming(0, 0), Check.NONE);
        Check.due("no hours", s.hour(1), Check.NOT);
        Check.due("no ways", s.came(0, -1), 0);
        Check.good("   ", 0);
    }
}
