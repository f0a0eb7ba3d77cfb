import java.util.function.Consumer;
import java.util.function.ToIntFunction;

/** The head of "Terms", sentence by sentence: numbers, sets, refusals. */
final class TermsBounds {
    private static final int LEAST = Integer.MIN_VALUE;
    private static final int MOST = Integer.MAX_VALUE;
    /** Of each limit the most that fits into one text, but for the comings. */
    private static final String EIGHT = "w7 2;d0 1;d1 1;d2 1;d3 1;p0 0 0 0;p0 1 0 2;p0 2 0 2;p0 3 0 2;p0 4 0 2;p0 5 0 2;p0 6 0 2;p5 6 1 0;";

    private TermsBounds() {
    }

    static void all() {
        calls();
        cutsTowardsZero();
        numbersFromZero();
        sets();
        none();
        refusalNumbers();
        unknown();
        bitsOfUnknown();
        outside();
        notAndFull();
        firstOfSeveral();
        refusedChangesNothing();
        billion();
    }

    private static void calls() {
        Check.sentence("What it is", "An object is used for at most 512 calls after it has been made; what later calls answer is free.");
        StairPortraits s = new StairPortraits();
        Check.feed(s, "w1 1;");
        s.house();
        for (int k = 7; k <= 511; k++) {
            Check.due("call " + k, s.hour(60), (k - 6) * 60);
        }
        Check.due("call 512", s.told(6), 505 * 60);
    }

    private static void cutsTowardsZero() {
        Check.sentence("Terms", "All numbers are whole; / cuts towards 0.");
        StairPortraits s = new StairPortraits();
        Check.due("safe(5, 33): 135012510.7", s.safe(5, 33), 135012510);
        Check.due("safe(6, 33): 90458381.7", s.safe(6, 33), 90458381);
    }

    private static void numbersFromZero() {
        Check.sentence("Terms", "What has a number has it from 0 on, as it comes.");
        StairPortraits s = Check.stairs("w4 2;p0 3 1 0;d2 0;p1 0 0 1;d1 1;e5 1 3;e0 0 7;");
        Check.due("the first picture", s.on(3, 1), 0);
        Check.due("the next picture", s.on(0, 0), 1);
        Check.due("the first door", s.on(2, 0), 10);
        Check.due("the next door", s.on(1, 1), 11);
        Check.due("the first coming", s.coming(0, 0), 5);
        Check.due("the next coming, though it is earlier", s.coming(1, 0), 0);
        Check.due("the first letter", Check.stairs("").fault(), Check.NONE);
        Check.fault("x", 1, 0);
        StairPortraits eight = Check.stairs(EIGHT);
        Check.due("the eighth picture", eight.on(6, 1), 7);
        Check.due("the fourth door", eight.on(3, 1), 13);
    }

    private static void sets() {
        Check.sentence("Terms", "A SET is a whole number, bit k for k.");
        StairPortraits s = Check.stairs(EIGHT + "s0 0;s6 7;");
        Check.due("things 0 and 7", s.told(8), 1 + 128);
        s.wall(0, true);
        s.wall(7, true);
        Check.due("pictures 0 and 7", s.told(7), 1 + 128);
        Check.due("what 6 alone knows", s.common(64), 128);
        Check.due("what 0 and 6 know", s.common(1 + 64), 0);
        Check.due("all kinds, 0 to 5", s.kinds(7, 0, 0), 63);
    }

    private static void none() {
        Check.sentence("Terms", "NONE is -1.");
        Check.due("NONE", StairPortraits.NONE, -1);
        Check.due("an answer NONE", new StairPortraits().fault(), -1);
    }

    private static void refusalNumbers() {
        Check.sentence("Terms", "They are far below all that is counted: -1000000001 and on.");
        Check.due("UNKNOWN", StairPortraits.UNKNOWN, -1000000001);
        Check.due("OUTSIDE", StairPortraits.OUTSIDE, -1000000002);
        Check.due("NOT", StairPortraits.NOT, -1000000003);
        Check.due("FULL", StairPortraits.FULL, -1000000004);
        StairPortraits s = new StairPortraits();
        Check.due("an answer UNKNOWN", s.keep(2), -1000000001);
        Check.due("an answer OUTSIDE", s.feed(256), -1000000002);
        Check.due("an answer NOT", s.goBack(0), -1000000003);
        for (int k = 0; k < 240; k++) {
            s.feed(' ');
        }
        Check.due("an answer FULL", s.feed(' '), -1000000004);
    }

    private static void unknown() {
        Check.sentence("Terms", "UNKNOWN (a CELL, PICTURE, DOOR, THING, IMAGE that there is not;");
        StairPortraits s = Twins.hall();
        for (int x : new int[] {LEAST, -1, 4, 7, MOST}) {
            Check.due("on cell (" + x + ", 0)", s.on(x, 0), Check.UNKNOWN);
            Check.due("hang on cell (" + x + ", 0)", s.hang(0, x, 0), Check.UNKNOWN);
        }
        for (int y : new int[] {LEAST, -1, 3, 7, MOST}) {
            Check.due("on cell (0, " + y + ")", s.on(0, y), Check.UNKNOWN);
            Check.due("hang on cell (0, " + y + ")", s.hang(0, 0, y), Check.UNKNOWN);
        }
        for (int p : new int[] {LEAST, -1, 4, 8, 10, 32, MOST}) {
            unknownPicture(s, p);
        }
        for (int t : new int[] {LEAST, -1, 8, 32, MOST}) {
            unknownThing(s, t);
        }
        for (int i : new int[] {LEAST, -1, 2, MOST}) {
            Check.due("keep(" + i + ")", s.keep(i), Check.UNKNOWN);
            Check.due("goBack(" + i + ")", s.goBack(i), Check.UNKNOWN);
        }
    }

    private static void unknownPicture(StairPortraits s, int p) {
        String of = " of picture " + p;
        Check.due("picture" + of, s.picture(p, 0), Check.UNKNOWN);
        Check.due("hang" + of, s.hang(p, 1, 1), Check.UNKNOWN);
        Check.due("turn" + of, s.turn(p, 0), Check.UNKNOWN);
        Check.due("wall" + of, s.wall(p, true), Check.UNKNOWN);
        Check.due("when" + of, s.when(p, 0), Check.UNKNOWN);
        Check.due("turns" + of, s.turns(p, 0, 0, 0, -1), Check.UNKNOWN);
        Check.due("walled" + of, s.walled(p, 0, 0, 0), Check.UNKNOWN);
        Check.due("kinds" + of, s.kinds(p, 0, 0), Check.UNKNOWN);
        Check.due("ask" + of, s.ask(p, 0, true), Check.UNKNOWN);
        Check.due("write" + of, s.write(p, 0), Check.UNKNOWN);
    }

    private static void unknownThing(StairPortraits s, int t) {
        String of = " of thing " + t;
        Check.due("when" + of, s.when(0, t), Check.UNKNOWN);
        Check.due("turns" + of, s.turns(0, t, 0, 0, -1), Check.UNKNOWN);
        Check.due("walled" + of, s.walled(0, t, 0, 0), Check.UNKNOWN);
        Check.due("all" + of, s.all(1, t), Check.UNKNOWN);
        Check.due("all of nobody" + of, s.all(0, t), Check.UNKNOWN);
        Check.due("ask" + of, s.ask(0, t, true), Check.UNKNOWN);
        Check.due("came" + of, s.came(t, -1), Check.UNKNOWN);
        Check.due("next" + of, s.next(t), Check.UNKNOWN);
    }

    private static void bitsOfUnknown() {
        Check.sentence("Terms", "bits of such)");
        StairPortraits s = Twins.hall();
        for (int set : new int[] {16, 17, 31, 1 << 8, 1 << 30, LEAST, -1, MOST}) {
            Check.due("turns, others " + set, s.turns(0, 0, set, 0, -1), Check.UNKNOWN);
            Check.due("all of " + set, s.all(set, 0), Check.UNKNOWN);
            Check.due("common of " + set, s.common(set), Check.UNKNOWN);
        }
        Check.due("common of all four", s.common(15), 0);
        StairPortraits eight = Check.stairs(EIGHT);
        Check.due("common of all eight", eight.common(255), 0);
        Check.due("common of a ninth", eight.common(256), Check.UNKNOWN);
        Check.due("common of one where nobody hangs", new StairPortraits().common(1), Check.UNKNOWN);
    }

    private static void outside() {
        Check.sentence("Terms", "OUTSIDE (another number out of its bounds),");
        StairPortraits s = Twins.hall();
        for (int v : new int[] {LEAST, -1, 256, MOST}) {
            Check.due("feed(" + v + ")", s.feed(v), Check.OUTSIDE);
            Check.due("told(" + v + ")", s.told(v), Check.OUTSIDE);
            Check.due("picture(0, " + v + ")", s.picture(0, v), Check.OUTSIDE);
            Check.due("coming(0, " + v + ")", s.coming(0, v), Check.OUTSIDE);
            Check.due("turn(0, " + v + ")", s.turn(0, v), Check.OUTSIDE);
            Check.due("hour(" + v + ")", s.hour(v), Check.OUTSIDE);
            Check.due("drift(" + v + ")", s.drift(v), Check.OUTSIDE);
            Check.due("hidden(" + v + ")", s.hidden(v), Check.OUTSIDE);
            Check.due("turns, n " + v, s.turns(0, 0, 0, v, -1), Check.OUTSIDE);
            Check.due("walled, n " + v, s.walled(0, 0, v, 0), Check.OUTSIDE);
            Check.due("walled, what " + v, s.walled(0, 0, 0, v), Check.OUTSIDE);
            Check.due("kinds, n " + v, s.kinds(0, v, 0), Check.OUTSIDE);
            Check.due("kinds, set " + v, s.kinds(0, 0, v), Check.OUTSIDE);
            Check.due("safe(" + v + ", 0)", s.safe(v, 0), Check.OUTSIDE);
            Check.due("safe(0, " + v + ")", s.safe(0, v), Check.OUTSIDE);
            Check.due("write, set " + v, s.write(0, v), Check.OUTSIDE);
        }
        Check.due("seed(-1)", s.seed(-1), Check.OUTSIDE);
        Check.due("seed of the least int", s.seed(LEAST), Check.OUTSIDE);
    }

    private static void notAndFull() {
        Check.sentence("Terms", "NOT (not now, as told), FULL.");
        StairPortraits s = Twins.hall();
        Check.due("NOT now: the cell is taken", s.hang(0, 2, 0), Check.NOT);
        s.hang(1, 3, 0);
        Check.due("the cell is free", s.hang(0, 2, 0), 10);
        fillNotes(s);
        Check.due("FULL now", s.ask(0, 0, true), Check.FULL);
        s.tear();
        Check.due("not full any more", s.ask(0, 0, true), 1);
    }

    private static void fillNotes(StairPortraits s) {
        for (int k = 0; k < 8; k++) {
            s.ask(0, 7, false);
        }
        for (int k = 0; k < 15; k++) {
            s.write(0, 34);
        }
    }

    private static void firstOfSeveral() {
        Check.sentence("Terms", "REFUSALS, of several the first in this order: UNKNOWN (a CELL, PICTURE, DOOR, THING, IMAGE that there is not;"
            + " bits of such), OUTSIDE (another number out of its bounds), NOT (not now, as told), FULL.");
        StairPortraits s = Twins.hall();
        fillNotes(s);
        Check.due("UNKNOWN, OUTSIDE: picture", s.picture(4, 6), Check.UNKNOWN);
        Check.due("UNKNOWN, OUTSIDE: turn", s.turn(4, 4), Check.UNKNOWN);
        Check.due("UNKNOWN p, OUTSIDE: turns", s.turns(4, 0, 0, 31, -1), Check.UNKNOWN);
        Check.due("UNKNOWN t, OUTSIDE: turns", s.turns(0, 8, 0, 31, -1), Check.UNKNOWN);
        Check.due("UNKNOWN set, OUTSIDE: turns", s.turns(0, 0, 16, 31, -1), Check.UNKNOWN);
        Check.due("UNKNOWN p, OUTSIDE n: walled", s.walled(4, 0, 31, 0), Check.UNKNOWN);
        Check.due("UNKNOWN t, OUTSIDE what: walled", s.walled(0, 8, 0, 2), Check.UNKNOWN);
        Check.due("UNKNOWN, OUTSIDE n: kinds", s.kinds(4, 31, 0), Check.UNKNOWN);
        Check.due("UNKNOWN, OUTSIDE set: kinds", s.kinds(4, 0, 256), Check.UNKNOWN);
        Check.due("UNKNOWN picture, NOT: hang", s.hang(4, 0, 0), Check.UNKNOWN);
        Check.due("UNKNOWN cell: hang", s.hang(0, 4, 0), Check.UNKNOWN);
        Check.due("UNKNOWN, NOT: goBack", s.goBack(2), Check.UNKNOWN);
        Check.due("UNKNOWN p, FULL: ask", s.ask(4, 0, true), Check.UNKNOWN);
        Check.due("UNKNOWN t, FULL: ask", s.ask(0, 8, true), Check.UNKNOWN);
        Check.due("UNKNOWN, FULL: write", s.write(4, 0), Check.UNKNOWN);
        Check.due("UNKNOWN, OUTSIDE, FULL: write", s.write(4, 256), Check.UNKNOWN);
        Check.due("OUTSIDE, FULL: write", s.write(0, 256), Check.OUTSIDE);
        Check.due("FULL alone: write", s.write(0, 255), Check.FULL);
        StairPortraits none = new StairPortraits();
        Check.due("OUTSIDE, NOT: hour", none.hour(61), Check.OUTSIDE);
        Check.due("OUTSIDE, NOT: drift", none.drift(0), Check.OUTSIDE);
        Check.due("NOT alone: hour", none.hour(60), Check.NOT);
        Check.feed(none, " ".repeat(240));
        Check.due("OUTSIDE, FULL: feed", none.feed(256), Check.OUTSIDE);
        Check.due("FULL alone: feed", none.feed(255), Check.FULL);
    }

    private static void refusedChangesNothing() {
        Check.sentence("Terms", "What is refused changes nothing.");
        refused("feed(-1)", Check.OUTSIDE, s -> s.feed(-1));
        refused("feed(256)", Check.OUTSIDE, s -> s.feed(256));
        refused("hang(4, 1, 1)", Check.UNKNOWN, s -> s.hang(4, 1, 1));
        refused("hang(0, 4, 1)", Check.UNKNOWN, s -> s.hang(0, 4, 1));
        refused("hang(0, 1, 3)", Check.UNKNOWN, s -> s.hang(0, 1, 3));
        refused("hang on a door", Check.NOT, s -> s.hang(0, 3, 2));
        refused("hang on another", Check.NOT, s -> s.hang(0, 2, 0));
        refused("hang on one turned to the wall", Check.NOT, s -> s.hang(3, 2, 0));
        refused("turn(4, 1)", Check.UNKNOWN, s -> s.turn(4, 1));
        refused("turn(0, 4)", Check.OUTSIDE, s -> s.turn(0, 4));
        refused("turn(0, -1)", Check.OUTSIDE, s -> s.turn(0, -1));
        refused("wall(4, true)", Check.UNKNOWN, s -> s.wall(4, true));
        refused("wall(-1, true)", Check.UNKNOWN, s -> s.wall(-1, true));
        refused("hour(0)", Check.OUTSIDE, s -> s.hour(0));
        refused("hour(61)", Check.OUTSIDE, s -> s.hour(61));
        refused("drift(0)", Check.OUTSIDE, s -> s.drift(0));
        refused("drift(61)", Check.OUTSIDE, s -> s.drift(61));
        refused("ask(4, 0)", Check.UNKNOWN, s -> s.ask(4, 0, true));
        refused("ask(0, 8)", Check.UNKNOWN, s -> s.ask(0, 8, true));
        refused("write(4, 0)", Check.UNKNOWN, s -> s.write(4, 0));
        refused("write(0, 256)", Check.OUTSIDE, s -> s.write(0, 256));
        refused("seed(-1)", Check.OUTSIDE, s -> s.seed(-1));
        refused("keep(2)", Check.UNKNOWN, s -> s.keep(2));
        refused("keep(-1)", Check.UNKNOWN, s -> s.keep(-1));
        refused("goBack(2)", Check.UNKNOWN, s -> s.goBack(2));
        refused("goBack(1)", Check.NOT, s -> s.goBack(1));
        refused("turns(0, 0, 0, 31)", Check.OUTSIDE, s -> s.turns(0, 0, 0, 31, -1));
        refused("walled(0, 0, 31)", Check.OUTSIDE, s -> s.walled(0, 0, 31, 0));
        refused("kinds(0, 31, 0)", Check.OUTSIDE, s -> s.kinds(0, 31, 0));
        refusedBehind(TermsBounds::fillNotes, "ask of a ninth", Check.FULL, s -> s.ask(1, 1, true));
        refusedBehind(TermsBounds::fillNotes, "write of a 16th", Check.FULL, s -> s.write(1, 1));
        StairPortraits none = new StairPortraits();
        none.hour(1);
        none.drift(1);
        Check.due("hours without a wall", none.told(6), 0);
        Check.due("the seed without a wall", none.seed(0), 0);
    }

    private static void refused(String name, int want, ToIntFunction<StairPortraits> call) {
        refusedBehind(s -> { }, name, want, call);
    }

    private static void refusedBehind(Consumer<StairPortraits> first, String name, int want, ToIntFunction<StairPortraits> call) {
        StairPortraits s = Twins.hall();
        first.accept(s);
        Check.due(name, call.applyAsInt(s), want);
        Twins.nothingChanges(name, first, call);
    }

    private static void billion() {
        Check.sentence("Terms", "BILLION is 1000000000.");
        Check.due("safe(0, 0)", new StairPortraits().safe(0, 0), 1000000000);
    }
}
