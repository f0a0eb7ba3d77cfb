import java.util.ArrayList;
import java.util.HashSet;
import java.util.List;
import java.util.Set;

/** The document once more, the long way round: every trial lets its hours pass, every search tries all. */
final class PlainModel {
    private static final int NONE = -1;
    private static final int[][] STEPS = {{1, 0}, {0, 1}, {-1, 0}, {0, -1}};

    private static final class Picture {
        int kind;
        int x;
        int y;
        int way;
        boolean walled;
        Set<Integer> knows = new HashSet<>();

        Picture copy() {
            Picture p = new Picture();
            p.kind = kind;
            p.x = x;
            p.y = y;
            p.way = way;
            p.walled = walled;
            p.knows = new HashSet<>(knows);
            return p;
        }
    }

    private static final class State {
        int w;
        int h;
        List<Picture> pictures = new ArrayList<>();
        List<int[]> doors = new ArrayList<>();
        List<int[]> comings = new ArrayList<>();
        int hours;
        long seed;

        State copy() {
            State s = new State();
            s.w = w;
            s.h = h;
            for (Picture p : pictures) {
                s.pictures.add(p.copy());
            }
            s.doors = doors;
            s.comings = comings;
            s.hours = hours;
            s.seed = seed;
            return s;
        }

        int on(int x, int y) {
            for (int p = 0; p < pictures.size(); p++) {
                if (pictures.get(p).x == x && pictures.get(p).y == y) {
                    return p;
                }
            }
            for (int d = 0; d < doors.size(); d++) {
                if (doors.get(d)[0] == x && doors.get(d)[1] == y) {
                    return 10 + d;
                }
            }
            return NONE;
        }

        int look(int p) {
            Picture me = pictures.get(p);
            if (me.walled || me.kind == 3 || me.kind == 5) {
                return NONE;
            }
            int way = me.kind == 1 ? (me.way + 1) % 4 : me.way;
            int x = me.x;
            int y = me.y;
            for (int cell = 1; cell <= 30; cell++) {
                x += STEPS[way][0];
                y += STEPS[way][1];
                if (x < 0 || y < 0 || x >= w || y >= h || (x == me.x && y == me.y)) {
                    return NONE;
                }
                int met = on(x, y);
                if (met >= 10) {
                    return met;
                }
                if (met != NONE && pictures.get(met).walled) {
                    return NONE;
                }
                if (met != NONE && pictures.get(met).kind != 5) {
                    return met;
                }
                if (met != NONE) {
                    way = (way + 1) % 4;
                }
            }
            return NONE;
        }

        void hour() {
            List<Set<Integer>> before = new ArrayList<>();
            for (Picture p : pictures) {
                before.add(new HashSet<>(p.knows));
            }
            for (int p = 0; p < pictures.size(); p++) {
                Picture me = pictures.get(p);
                int look = look(p);
                Set<Integer> heard = new HashSet<>();
                if (look >= 10) {
                    for (int[] c : comings) {
                        if (c[0] == hours && c[1] == look - 10) {
                            heard.add(c[2]);
                        }
                    }
                } else if (look != NONE && pictures.get(look).kind != 4) {
                    heard.addAll(before.get(look));
                }
                for (int t : heard) {
                    if (me.kind != 2 || t % 2 == 0) {
                        me.knows.add(t);
                    }
                }
            }
            hours++;
        }

        State behind(int n) {
            State s = copy();
            for (int k = 0; k < n; k++) {
                s.hour();
            }
            return s;
        }

        boolean knows(int p, int t) {
            return pictures.get(p).knows.contains(t);
        }

        int draw(int n) {
            seed = (seed * 1103515245L + 12345L) % (1L << 31);
            return (int) (seed / 65536 % n);
        }
    }

    private State now = new State();
    private final State[] images = new State[2];
    private StringBuilder text = new StringBuilder();
    private int fault = NONE;
    private final List<int[]> asked = new ArrayList<>();
    private final List<int[]> book = new ArrayList<>();

    private boolean noPicture(int p) {
        return p < 0 || p >= now.pictures.size();
    }

    private boolean noThing(int t) {
        return t < 0 || t > 7;
    }

    private boolean noPictures(int set) {
        for (int k = 0; k < 32; k++) {
            if ((set >>> k & 1) == 1 && k >= now.pictures.size()) {
                return true;
            }
        }
        return false;
    }

    private static int bits(Set<Integer> things) {
        int set = 0;
        for (int t : things) {
            set += 1 << t;
        }
        return set;
    }

    int feed(int letter) {
        if (letter < 0 || letter > 255) {
            return Check.OUTSIDE;
        }
        if (text.length() == 240) {
            return Check.FULL;
        }
        text.append((char) letter);
        return text.length();
    }

    // ---- the text: cut into tokens first, then each clause's tokens are judged from the left

    private List<String> tokens;
    private List<Integer> places;

    private void cut(String all) {
        tokens = new ArrayList<>();
        places = new ArrayList<>();
        int k = 0;
        while (k < all.length()) {
            int start = k;
            if (all.charAt(k) == ' ') {
                k++;
                continue;
            }
            if (Character.toString(all.charAt(k)).matches("[0-9]")) {
                while (k < all.length() && Character.toString(all.charAt(k)).matches("[0-9]")) {
                    k++;
                }
            } else {
                k++;
            }
            tokens.add(all.substring(start, k));
            places.add(start);
        }
        tokens.add("");
        places.add(all.length());
    }

    /** The fault's number and letter; null: none, and the state is filled. */
    private int[] parse(State s) {
        int k = 0;
        int firsts = 0;
        while (!tokens.get(k).isEmpty()) {
            String word = tokens.get(k);
            int[] here = {0, places.get(k)};
            if (!"wpdes".contains(word) || (k == 0 && !word.equals("w"))) {
                here[0] = 1;
                return here;
            }
            if ((word.equals("w") && k > 0) || (word.equals("p") && s.pictures.size() == 8)
                || (word.equals("d") && s.doors.size() == 4) || (word.equals("e") && s.comings.size() == 8)
                || (word.equals("s") && firsts == 8)) {
                here[0] = 3;
                return here;
            }
            int many = "wds".contains(word) ? 2 : word.equals("p") ? 4 : 3;
            int[] n = new int[many];
            for (int j = 0; j < many; j++) {
                String token = tokens.get(k + 1 + j);
                int number = judge(s, word, n, j, token);
                if (number != 0) {
                    return new int[] {number, places.get(k + 1 + j)};
                }
                n[j] = Integer.parseInt(token);
            }
            if (!tokens.get(k + 1 + many).equals(";")) {
                return new int[] {1, places.get(k + 1 + many)};
            }
            fill(s, word, n);
            firsts += word.equals("s") ? 1 : 0;
            k += many + 2;
        }
        return null;
    }

    private int judge(State s, String word, int[] n, int j, String token) {
        if (!token.matches("[0-9]+")) {
            return 1;
        }
        if (token.length() > 3) {
            return 2;
        }
        int v = Integer.parseInt(token);
        int least = word.equals("w") ? 1 : 0;
        int[] most;
        switch (word) {
            case "w": most = new int[] {7, 7}; break;
            case "p": most = new int[] {5, s.w - 1, s.h - 1, 3}; break;
            case "d": most = new int[] {s.w - 1, s.h - 1}; break;
            case "e": most = new int[] {30, s.doors.size() - 1, 7}; break;
            default: most = new int[] {s.pictures.size() - 1, 7}; break;
        }
        if (v < least || v > most[j]) {
            return 2;
        }
        boolean taken = (word.equals("p") && j == 2 && s.on(n[1], v) != NONE)
            || (word.equals("d") && j == 1 && s.on(n[0], v) != NONE)
            || (word.equals("s") && j == 0 && (s.pictures.get(v).kind == 3 || s.pictures.get(v).kind == 5))
            || (word.equals("s") && j == 1 && s.knows(n[0], v));
        return taken ? 4 : 0;
    }

    private void fill(State s, String word, int[] n) {
        switch (word) {
            case "w":
                s.w = n[0];
                s.h = n[1];
                break;
            case "p":
                Picture p = new Picture();
                p.kind = n[0];
                p.x = n[1];
                p.y = n[2];
                p.way = n[3];
                s.pictures.add(p);
                break;
            case "d": s.doors.add(n); break;
            case "e": s.comings.add(n); break;
            default: s.pictures.get(n[0]).knows.add(n[1]); break;
        }
    }

    int house() {
        State s = new State();
        cut(text.toString());
        text = new StringBuilder();
        int[] first = parse(s);
        fault = first == null ? NONE : first[1];
        if (first != null) {
            return -10 - first[0];
        }
        s.seed = now.seed;
        now = s;
        images[0] = null;
        images[1] = null;
        asked.clear();
        book.clear();
        return now.pictures.size();
    }

    int fault() {
        return fault;
    }

    int told(int what) {
        int walled = 0;
        Set<Integer> known = new HashSet<>();
        for (int p = 0; p < now.pictures.size(); p++) {
            walled += now.pictures.get(p).walled ? 1 << p : 0;
            known.addAll(now.pictures.get(p).knows);
        }
        int[] answers = {now.w, now.h, now.pictures.size(), now.doors.size(), now.comings.size(), text.length(),
            now.hours, walled, bits(known), asked.size(), book.size()};
        return what < 0 || what > 10 ? Check.OUTSIDE : answers[what];
    }

    int picture(int p, int what) {
        if (noPicture(p)) {
            return Check.UNKNOWN;
        }
        Picture me = now.pictures.get(p);
        int[] answers = {me.kind, me.x, me.y, me.way, bits(me.knows), now.look(p)};
        return what < 0 || what > 5 ? Check.OUTSIDE : answers[what];
    }

    private boolean noCell(int x, int y) {
        return x < 0 || y < 0 || x >= now.w || y >= now.h;
    }

    int on(int x, int y) {
        return noCell(x, y) ? Check.UNKNOWN : now.on(x, y);
    }

    int coming(int i, int what) {
        if (what < 0 || what > 2) {
            return Check.OUTSIDE;
        }
        return i < 0 || i >= now.comings.size() ? NONE : now.comings.get(i)[what];
    }

    int hang(int p, int x, int y) {
        if (noPicture(p) || noCell(x, y)) {
            return Check.UNKNOWN;
        }
        if (now.on(x, y) != NONE) {
            return Check.NOT;
        }
        now.pictures.get(p).x = x;
        now.pictures.get(p).y = y;
        return now.look(p);
    }

    int turn(int p, int way) {
        if (noPicture(p)) {
            return Check.UNKNOWN;
        }
        if (way < 0 || way > 3) {
            return Check.OUTSIDE;
        }
        now.pictures.get(p).way = way;
        return now.look(p);
    }

    int wall(int p, boolean is) {
        if (noPicture(p)) {
            return Check.UNKNOWN;
        }
        int was = now.pictures.get(p).walled ? 1 : 0;
        now.pictures.get(p).walled = is;
        return was;
    }

    int hour(int n) {
        if (n < 1 || n > 60) {
            return Check.OUTSIDE;
        }
        if (now.w == 0) {
            return Check.NOT;
        }
        now = now.behind(n);
        return now.hours;
    }

    int drift(int n) {
        if (n < 1 || n > 60) {
            return Check.OUTSIDE;
        }
        if (now.w == 0) {
            return Check.NOT;
        }
        for (int k = 0; k < n; k++) {
            if (now.draw(4) == 0 && !now.pictures.isEmpty()) {
                Picture p = now.pictures.get(now.draw(now.pictures.size()));
                p.way = (p.way + 1) % 4;
            }
            now.hour();
        }
        return now.hours;
    }

    int when(int p, int t) {
        if (noPicture(p) || noThing(t)) {
            return Check.UNKNOWN;
        }
        return all(1 << p, t);
    }

    int hidden(int n) {
        if (n < 0 || n > 60) {
            return Check.OUTSIDE;
        }
        Set<Integer> things = new HashSet<>();
        for (int[] c : now.comings) {
            things.add(c[2]);
        }
        for (Picture p : now.behind(n).pictures) {
            things.removeAll(p.knows);
        }
        return bits(things);
    }

    private static boolean wished(State trial, int p, int t, int set, int n) {
        State then = trial.behind(n);
        if (!then.knows(p, t)) {
            return false;
        }
        for (int q = 0; q < then.pictures.size(); q++) {
            if ((set >> q & 1) == 1 && then.knows(q, t)) {
                return false;
            }
        }
        return true;
    }

    private List<Integer> turned(int p, int t, int set, int n) {
        if (wished(now, p, t, set, n)) {
            return List.of();
        }
        int pictures = now.pictures.size();
        for (int a = 0; a < 10 * pictures; a++) {
            State one = turnedBy(now, a);
            if (one != null && wished(one, p, t, set, n)) {
                return List.of(a);
            }
        }
        for (int a = 0; a < 10 * pictures; a++) {
            State one = turnedBy(now, a);
            for (int b = 10 * (a / 10 + 1); one != null && b < 10 * pictures; b++) {
                State two = turnedBy(one, b);
                if (two != null && wished(two, p, t, set, n)) {
                    return List.of(a, b);
                }
            }
        }
        return null;
    }

    private static State turnedBy(State from, int number) {
        int p = number / 10;
        int way = number % 10;
        if (way > 3 || from.pictures.get(p).way == way) {
            return null;
        }
        State s = from.copy();
        s.pictures.get(p).way = way;
        return s;
    }

    int turns(int p, int t, int set, int n, int i) {
        if (noPicture(p) || noThing(t) || noPictures(set)) {
            return Check.UNKNOWN;
        }
        if (n < 0 || n > 30) {
            return Check.OUTSIDE;
        }
        List<Integer> found = turned(p, t, set, n);
        if (found == null) {
            return NONE;
        }
        if (i == NONE) {
            return found.size();
        }
        return i < 0 || i >= found.size() ? NONE : found.get(i);
    }

    int walled(int p, int t, int n, int what) {
        if (noPicture(p) || noThing(t)) {
            return Check.UNKNOWN;
        }
        if (n < 0 || n > 30 || what < 0 || what > 1) {
            return Check.OUTSIDE;
        }
        int best = NONE;
        for (int set = 0; set < 1 << now.pictures.size(); set++) {
            if (best != NONE && Integer.bitCount(set) >= Integer.bitCount(best)) {
                continue;
            }
            State s = now.copy();
            boolean fits = (set >> p & 1) == 0;
            for (int q = 0; q < s.pictures.size(); q++) {
                if ((set >> q & 1) == 1) {
                    fits &= !s.pictures.get(q).walled;
                    s.pictures.get(q).walled = true;
                }
            }
            if (fits && !s.behind(n).knows(p, t)) {
                best = set;
            }
        }
        return best == NONE ? NONE : what == 0 ? Integer.bitCount(best) : best;
    }

    int kinds(int p, int n, int set) {
        if (noPicture(p)) {
            return Check.UNKNOWN;
        }
        if (n < 0 || n > 30 || set < 0 || set > 255) {
            return Check.OUTSIDE;
        }
        int fitting = 0;
        for (int kind = 0; kind < 6; kind++) {
            State s = now.copy();
            s.pictures.get(p).kind = kind;
            fitting += bits(s.behind(n).pictures.get(p).knows) == set ? 1 << kind : 0;
        }
        return fitting;
    }

    int all(int set, int t) {
        if (noPictures(set) || noThing(t)) {
            return Check.UNKNOWN;
        }
        State s = now.copy();
        for (int n = 0; n <= 60; n++) {
            boolean every = true;
            for (int p = 0; p < s.pictures.size(); p++) {
                every &= (set >> p & 1) == 0 || s.knows(p, t);
            }
            if (every) {
                return n;
            }
            s.hour();
        }
        return NONE;
    }

    int common(int set) {
        if (noPictures(set)) {
            return Check.UNKNOWN;
        }
        Set<Integer> things = new HashSet<>(List.of(0, 1, 2, 3, 4, 5, 6, 7));
        for (int p = 0; p < now.pictures.size(); p++) {
            if ((set >> p & 1) == 1) {
                things.retainAll(now.pictures.get(p).knows);
            }
        }
        return bits(things);
    }

    int safe(int n, int q) {
        if (n < 0 || n > 60 || q < 0 || q > 100) {
            return Check.OUTSIDE;
        }
        long odds = 1000000000L;
        for (int k = 0; k < n; k++) {
            odds = odds * (100 - q) / 100;
        }
        return (int) odds;
    }

    int ask(int p, int t, boolean knows) {
        if (noPicture(p) || noThing(t)) {
            return Check.UNKNOWN;
        }
        if (asked.size() == 8) {
            return Check.FULL;
        }
        asked.add(new int[] {p, t, knows ? 1 : 0});
        return asked.size();
    }

    /** Each way that fits, with the state in which it ends. */
    private void ways(int t, List<Integer> numbers, List<State> ends) {
        for (int h = 0; h <= 60 && h < now.hours; h++) {
            for (int d = 0; d < now.doors.size(); d++) {
                State s = now.copy();
                s.hours = 0;
                s.comings = List.of(new int[] {h, d, t});
                for (Picture p : s.pictures) {
                    p.knows.clear();
                }
                s = s.behind(now.hours);
                boolean fits = true;
                for (int[] a : asked) {
                    fits &= a[1] != t || s.knows(a[0], t) == (a[2] == 1);
                }
                if (fits) {
                    numbers.add(10 * h + d);
                    ends.add(s);
                }
            }
        }
    }

    int came(int t, int i) {
        if (noThing(t)) {
            return Check.UNKNOWN;
        }
        List<Integer> numbers = new ArrayList<>();
        ways(t, numbers, new ArrayList<>());
        if (i == NONE) {
            return numbers.size();
        }
        return i < 0 || i >= numbers.size() ? NONE : numbers.get(i);
    }

    int next(int t) {
        if (noThing(t)) {
            return Check.UNKNOWN;
        }
        List<State> ends = new ArrayList<>();
        ways(t, new ArrayList<>(), ends);
        int best = NONE;
        int bestPart = ends.size();
        for (int p = 0; p < now.pictures.size(); p++) {
            int yes = 0;
            int no = 0;
            for (State s : ends) {
                if (s.knows(p, t)) {
                    yes++;
                } else {
                    no++;
                }
            }
            int part = yes > no ? yes : no;
            if (part < bestPart) {
                bestPart = part;
                best = p;
            }
        }
        return best;
    }

    int write(int p, int set) {
        if (noPicture(p)) {
            return Check.UNKNOWN;
        }
        if (set < 0 || set > 255) {
            return Check.OUTSIDE;
        }
        if (book.size() == 15) {
            return Check.FULL;
        }
        book.add(new int[] {p, set});
        return book.size();
    }

    int tear() {
        int had = asked.size() + book.size();
        asked.clear();
        book.clear();
        return had;
    }

    int judge() {
        for (int k = 0; k < book.size(); k++) {
            if (bits(now.pictures.get(book.get(k)[0]).knows) != book.get(k)[1]) {
                return k;
            }
        }
        return NONE;
    }

    int seed(int v) {
        if (v < 0) {
            return Check.OUTSIDE;
        }
        long was = now.seed;
        now.seed = v;
        return (int) was;
    }

    int keep(int i) {
        if (i != 0 && i != 1) {
            return Check.UNKNOWN;
        }
        images[i] = now.copy();
        return 1;
    }

    int goBack(int i) {
        if (i != 0 && i != 1) {
            return Check.UNKNOWN;
        }
        if (images[i] == null) {
            return Check.NOT;
        }
        now = images[i].copy();
        return 1;
    }
}
