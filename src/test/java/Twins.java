import java.util.function.Consumer;
import java.util.function.ToIntFunction;

/** Two objects alike but for one call that is to change nothing: all that they answer behind it must be alike. */
final class Twins {
    static final String HALL = "w4 3;d0 0;d3 2;p0 1 0 2;p4 2 0 2;p5 2 2 0;p0 0 2 0;e0 0 1;e2 1 4;e30 0 6;s0 5;s3 0;";

    private Twins() {
    }

    /** A hall of four pictures in which everything has been used once; a text of five letters has been begun. */
    static StairPortraits hall() {
        StairPortraits s = Check.stairs(HALL);
        s.hour(2);
        s.wall(1, true);
        s.seed(33);
        s.keep(0);
        s.hour(1);
        s.turn(3, 1);
        s.ask(0, 1, true);
        s.ask(3, 4, false);
        s.write(0, 34);
        s.write(3, 9);
        s.seed(77);
        Check.feed(s, "w1 1;x");
        s.house();
        Check.feed(s, "w2 3;");
        return s;
    }

    static void nothingChanges(String name, ToIntFunction<StairPortraits> call) {
        nothingChanges(name, s -> { }, call);
    }

    static void nothingChanges(String name, Consumer<StairPortraits> first, ToIntFunction<StairPortraits> call) {
        StairPortraits untouched = hall();
        StairPortraits called = hall();
        first.accept(untouched);
        first.accept(called);
        call.applyAsInt(called);
        Check.due(name + " changes nothing", trace(called).equals(trace(untouched)));
    }

    /** All that an object of the hall answers; it is used up by it. */
    private static String trace(StairPortraits s) {
        StringBuilder all = new StringBuilder();
        state(s, all);
        all.append("fault ").append(s.fault()).append(" seed ").append(s.seed(5));
        for (int i = 0; i < 2; i++) {
            all.append(" image ").append(s.goBack(i));
            all.append(" seed ").append(s.seed(6));
            state(s, all);
        }
        all.append(" house ").append(s.house()).append(' ').append(s.told(0)).append(' ').append(s.told(1));
        return all.toString();
    }

    private static void state(StairPortraits s, StringBuilder all) {
        for (int what = 0; what <= 10; what++) {
            all.append(s.told(what)).append(' ');
        }
        for (int p = 0; p < 4; p++) {
            for (int what = 0; what <= 5; what++) {
                all.append(s.picture(p, what)).append(' ');
            }
        }
        for (int cell = 0; cell < 12; cell++) {
            all.append(s.on(cell % 4, cell / 4)).append(' ');
        }
        for (int i = 0; i < 3; i++) {
            for (int what = 0; what <= 2; what++) {
                all.append(s.coming(i, what)).append(' ');
            }
        }
        for (int t = 0; t < 8; t++) {
            all.append(s.came(t, -1)).append(' ').append(s.next(t)).append(' ');
        }
        all.append(s.judge()).append(' ');
    }
}
