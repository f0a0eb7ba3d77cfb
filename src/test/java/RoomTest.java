import java.lang.management.ManagementFactory;

/** All calls of a run live in one room: no call makes an object or an array. */
public final class RoomTest {
    private static final String HOUSE = "w7 7;d0 0;d6 0;d0 6;d6 6;p0 3 0 2;p0 3 1 3;p0 3 2 3;p0 3 3 3;p1 3 4 2;p2 3 5 3;"
        + "p5 6 3 0;p4 0 3 0;e0 0 0;e1 1 1;e2 2 2;e3 3 3;e4 0 4;e5 1 5;e6 0 6;e30 0 7;s5 7;";

    public static void main(String[] args) {
        int[] letters = new int[HOUSE.length()];
        for (int k = 0; k < letters.length; k++) {
            letters[k] = HOUSE.charAt(k);
        }
        com.sun.management.ThreadMXBean meter = (com.sun.management.ThreadMXBean) ManagementFactory.getThreadMXBean();
        StairPortraits s = new StairPortraits();
        long sum = callAll(s, letters);
        long before = meter.getCurrentThreadAllocatedBytes();
        long idle = meter.getCurrentThreadAllocatedBytes() - before;
        before = meter.getCurrentThreadAllocatedBytes();
        for (int k = 0; k < 50; k++) {
            sum += callAll(s, letters);
        }
        long made = meter.getCurrentThreadAllocatedBytes() - before - idle;
        // Some bytes are left to the machine itself; an object at each call would make far more.
        Check.due("few bytes are made by the calls: " + made + " (sum " + sum + ")", made < 4096);
        Check.end();
    }

    private static long callAll(StairPortraits s, int[] letters) {
        long sum = 0;
        for (int letter : letters) {
            sum += s.feed(letter);
        }
        sum += s.house() + s.fault() + s.hour(7) + s.drift(60) + s.keep(0) + s.seed(5) + s.goBack(0) + s.judge();
        for (int p = 0; p < 8; p++) {
            sum += s.picture(p, 5) + s.turn(p, p & 3) + s.hang(p, p % 7, 5) + s.wall(p, p == 3) + s.coming(p, 0) + s.on(p, p);
            sum += s.ask(p, 2, true) + s.write(p, p) + s.told(p);
            for (int t = 0; t < 8; t++) {
                sum += s.when(p, t) + s.turns(p, t, 16, 9, -1) + s.walled(p, t, 9, 1) + s.kinds(p, 9, t) + s.all(7, t);
                sum += s.came(t, p) + s.next(t) + s.hidden(t) + s.common(t) + s.safe(p, t);
            }
        }
        return sum + s.tear();
    }
}
