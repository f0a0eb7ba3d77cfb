import java.util.Random;

/** Random runs of calls, each answer beside that of the plain model: all promises at once. */
public final class ModelTest {
    private static final int RUNS = 300;
    private static final int CALLS = 300;
    private static final int[] WILD = {-2147483648, 2147483647, -1000000001, -2, -1, 0, 1, 2, 3, 4, 7, 8, 9, 15, 16,
        30, 31, 32, 60, 61, 100, 101, 239, 240, 241, 255, 256, 257, 65536, 1 << 30};

    private final Random random;
    private final StairPortraits stairs = new StairPortraits();
    private final PlainModel model = new PlainModel();
    private int calls = 0;
    private String latest = "";

    private ModelTest(long run) {
        random = new Random(run);
    }

    public static void main(String[] args) {
        int runs = args.length > 0 ? Integer.parseInt(args[0]) : RUNS;
        int from = args.length > 1 ? Integer.parseInt(args[1]) : 0;
        for (int run = from; run < from + runs; run++) {
            new ModelTest(run).go(run);
        }
        Check.end();
    }

    private void go(int run) {
        if (random.nextInt(10) > 0) {
            tell(random.nextInt(6) == 0);
        }
        for (int k = 0; k < CALLS; k++) {
            if (random.nextInt(100) == 0) {
                tell(random.nextInt(2) == 0);
            }
            call(run);
        }
    }

    // ---- texts

    private void tell(boolean faulty) {
        String text = text();
        if (faulty) {
            text = spoilt(text);
        }
        for (int k = 0; k < text.length(); k++) {
            same("feed of '" + text + "'", stairs.feed(text.charAt(k)), model.feed(text.charAt(k)));
        }
        same("house() of '" + text + "'", stairs.house(), model.house());
        same("fault() of '" + text + "'", stairs.fault(), model.fault());
        latest = text;
        for (int what = 0; what <= 10; what++) {
            same("told behind '" + text + "'", stairs.told(what), model.told(what));
        }
        for (int p = 0; p < 8; p++) {
            for (int what = 0; what <= 5; what++) {
                same("picture(" + p + ", " + what + ") behind '" + text + "'", stairs.picture(p, what), model.picture(p, what));
            }
        }
    }

    private String text() {
        int w = 1 + random.nextInt(7);
        int h = 1 + random.nextInt(random.nextInt(3) == 0 ? 1 : 7);
        StringBuilder text = new StringBuilder("w" + w + " " + h + ";");
        boolean[] taken = new boolean[49];
        int doors = 0;
        int pictures = 0;
        int comings = 0;
        int[] kinds = new int[8];
        boolean[] first = new boolean[64];
        int firsts = 0;
        int mirrors = random.nextInt(4);
        for (int k = 0; k < 34; k++) {
            String clause = "";
            int x = random.nextInt(w);
            int y = random.nextInt(h);
            int choice = random.nextInt(10);
            if (choice < 4 && pictures < 8 && !taken[x * 7 + y]) {
                taken[x * 7 + y] = true;
                kinds[pictures] = random.nextInt(4) < mirrors ? 5 : random.nextInt(2) == 0 ? 0 : random.nextInt(6);
                clause = "p" + kinds[pictures] + " " + x + " " + y + " " + random.nextInt(4) + ";";
                pictures++;
            } else if (choice == 4 && doors < 4 && !taken[x * 7 + y]) {
                taken[x * 7 + y] = true;
                clause = "d" + x + " " + y + ";";
                doors++;
            } else if (choice < 8 && doors > 0 && comings < 8) {
                clause = "e" + random.nextInt(random.nextInt(3) == 0 ? 31 : 5) + " " + random.nextInt(doors) + " " + random.nextInt(8) + ";";
                comings++;
            } else if (pictures > 0 && firsts < 8) {
                int p = random.nextInt(pictures);
                int t = random.nextInt(8);
                if (kinds[p] != 3 && kinds[p] != 5 && !first[p * 8 + t]) {
                    first[p * 8 + t] = true;
                    clause = "s" + p + " " + t + ";";
                    firsts++;
                }
            }
            if (text.length() + clause.length() <= 236) {
                text.append(clause);
            } else {
                break;
            }
        }
        return text.toString();
    }

    private String spoilt(String text) {
        StringBuilder s = new StringBuilder(text);
        String letters = "wpdes;0123456789  99 00;;";
        int times = 1 + random.nextInt(3);
        for (int k = 0; k < times && s.length() > 0; k++) {
            int at = random.nextInt(s.length());
            char letter = random.nextInt(12) == 0 ? (char) random.nextInt(256) : letters.charAt(random.nextInt(letters.length()));
            switch (random.nextInt(6)) {
                case 0: s.deleteCharAt(at); break;
                case 1: s.insert(at, letter); break;
                case 2: s.setCharAt(at, letter); break;
                case 3: s.setLength(at); break;
                case 4: s.insert(at, ' '); break;
                default: {
                    int start = random.nextInt(s.length());
                    int end = Math.min(s.length(), start + 1 + random.nextInt(12));
                    s.append(s.substring(start, end));
                    break;
                }
            }
        }
        return s.toString();
    }

    // ---- calls

    private int number(int below) {
        if (random.nextInt(25) == 0) {
            return WILD[random.nextInt(WILD.length)];
        }
        return random.nextInt(below);
    }

    private int p() {
        int pictures = Math.max(1, stairs.told(2));
        model.told(2);
        return number(pictures);
    }

    private int set() {
        return number(1 << stairs.told(2));
    }

    private void call(int run) {
        int p = p();
        int t = number(8);
        int n = number(random.nextBoolean() ? 12 : 62);
        int i = random.nextBoolean() ? -1 : number(6);
        int set = random.nextBoolean() ? set() & set() : set();
        boolean is = random.nextBoolean();
        String name = "run " + run + ", call " + calls + " on '" + latest + "': ";
        calls++;
        String five = "(" + p + ", " + t + ", " + set + ", " + n + ", " + i + ", " + is + ")";
        switch (random.nextInt(34)) {
            case 0: same(name + "told" + five, stairs.told(i), model.told(i)); break;
            case 1: same(name + "picture" + five, stairs.picture(p, 4), model.picture(p, 4)); break;
            case 2: same(name + "picture" + five, stairs.picture(p, 5), model.picture(p, 5)); break;
            case 3: same(name + "picture" + five, stairs.picture(p, i), model.picture(p, i)); break;
            case 4: same(name + "on" + five, stairs.on(t, i), model.on(t, i)); break;
            case 5: same(name + "coming" + five, stairs.coming(t, i), model.coming(t, i)); break;
            case 6: case 7: {
                int x = number(7);
                int y = number(7);
                same(name + "hang" + five, stairs.hang(p, x, y), model.hang(p, x, y));
                break;
            }
            case 8: case 9: {
                int way = number(4);
                same(name + "turn" + five, stairs.turn(p, way), model.turn(p, way));
                break;
            }
            case 10: case 11: {
                boolean walled = random.nextInt(4) == 0;
                same(name + "wall" + five, stairs.wall(p, walled), model.wall(p, walled));
                break;
            }
            case 12: {
                int few = number(4);
                same(name + "hour" + five, stairs.hour(few), model.hour(few));
                break;
            }
            case 13: {
                int few = random.nextInt(4) == 0 ? n : number(4);
                same(name + "drift" + five, stairs.drift(few), model.drift(few));
                break;
            }
            case 14: case 15: same(name + "when" + five, stairs.when(p, t), model.when(p, t)); break;
            case 16: same(name + "hidden" + five, stairs.hidden(n), model.hidden(n)); break;
            case 17: case 18: {
                int found = model.turns(p, t, set, n % 32, i);
                same(name + "turns" + five, stairs.turns(p, t, set, n % 32, i), found);
                break;
            }
            case 19: case 20: {
                int what = number(2);
                same(name + "walled" + five, stairs.walled(p, t, n, what), model.walled(p, t, n, what));
                break;
            }
            case 21: case 22: {
                int things = random.nextInt(3) == 0 ? number(256) : stairs.picture(p, 4);
                same(name + "kinds" + five, stairs.kinds(p, n, things), model.kinds(p, n, things));
                break;
            }
            case 23: same(name + "all" + five, stairs.all(set, t), model.all(set, t)); break;
            case 24: same(name + "common" + five, stairs.common(set), model.common(set)); break;
            case 25: {
                int q = number(102);
                same(name + "safe" + five, stairs.safe(n, q), model.safe(n, q));
                break;
            }
            case 26: same(name + "ask" + five, stairs.ask(p, t, is), model.ask(p, t, is)); break;
            case 27: same(name + "came" + five, stairs.came(t, i), model.came(t, i)); break;
            case 28: same(name + "next" + five, stairs.next(t), model.next(t)); break;
            case 29: {
                int things = random.nextInt(3) == 0 ? number(256) : stairs.picture(p, 4);
                same(name + "write" + five, stairs.write(p, things), model.write(p, things));
                break;
            }
            case 30: {
                if (random.nextInt(3) == 0) {
                    same(name + "tear" + five, stairs.tear(), model.tear());
                }
                same(name + "judge" + five, stairs.judge(), model.judge());
                break;
            }
            case 31: {
                int v = random.nextInt(3) == 0 ? random.nextInt() : number(1000);
                same(name + "seed" + five, stairs.seed(v), model.seed(v));
                break;
            }
            case 32: {
                int image = number(2);
                same(name + "keep" + five, stairs.keep(image), model.keep(image));
                break;
            }
            default: {
                int image = number(2);
                if (random.nextBoolean()) {
                    same(name + "goBack" + five, stairs.goBack(image), model.goBack(image));
                } else {
                    same(name + "fault" + five, stairs.fault(), model.fault());
                }
                break;
            }
        }
    }

    private static void same(String call, int got, int want) {
        Check.due(call, got, want);
    }
}
