import java.util.Arrays;

/** Portraits along the stairs that look at each other and tell on what they know; see DOC.md. */
public final class StairPortraits {
    public static final int NONE = -1, UNKNOWN = -1000000001, OUTSIDE = -1000000002, NOT = -1000000003, FULL = -1000000004;

    private static final int MOST_LETTERS = 240;
    private static final int MOST_PICTURES = 8;
    private static final int MOST_DOORS = 4;
    private static final int MOST_COMINGS = 8;
    private static final int MOST_FIRSTS = 8;
    private static final int MOST_ASKED = 8;
    private static final int MOST_ENTRIES = 15;
    private static final int MOST_TURNED = 2;
    private static final int MOST_CELLS_SEEN = 30;
    private static final int LONGEST_SIDE = 7;
    private static final int LAST_COMING_HOUR = 30;
    private static final int LAST_HOUR_GONE_THROUGH = 60;
    private static final int MOST_HOURS = 60;
    private static final int MOST_HOURS_SEARCHED = 30;
    private static final int HOURS_LIMIT = 90000;
    private static final int THINGS = 8;
    private static final int ALL_THINGS = 255;
    private static final int EVEN_THINGS = 85;
    private static final int KINDS = 6;
    private static final int WAYS = 4;
    private static final int IMAGES = 2;
    private static final int FIRST_DOOR = 10;
    private static final int BILLION = 1000000000;
    /** Far above every count of hours, and far from overflow when hours are added to it. */
    private static final int NEVER = 1000000;

    private static final int SQUINT = 1;
    private static final int PROFILE = 2;
    private static final int LANDSCAPE = 3;
    private static final int FAKE = 4;
    private static final int MIRROR = 5;

    private final Reader reader;
    /** The house that stands, and the one that the next text is read into: they change places. */
    private Plan plan;
    private Plan draft;
    private final Scene now;
    private final Scene trial;
    private final Scene firstImage;
    private final Scene secondImage;
    private int keptImages;
    private int faultLetter;
    private final Notes notes;
    private final Turning turning;
    private final Past past;

    public StairPortraits() {
        reader = new Reader();
        plan = new Plan();
        draft = new Plan();
        now = new Scene();
        trial = new Scene();
        firstImage = new Scene();
        secondImage = new Scene();
        keptImages = 0;
        faultLetter = NONE;
        notes = new Notes();
        turning = new Turning();
        past = new Past();
    }

    // ---- the house

    public int feed(int letter) {
        if (letter < 0 || letter > 255) {
            return OUTSIDE;
        }
        return reader.append(letter);
    }

    public int house() {
        int number = reader.readInto(draft);
        faultLetter = reader.faultAt;
        reader.empty();
        if (number != 0) {
            return -10 - number;
        }
        Plan last = plan;
        plan = draft;
        draft = last;
        int drawn = now.drawn;
        now.copyFrom(plan.start);
        now.drawn = drawn;
        now.lookAll(plan);
        notes.empty();
        keptImages = 0;
        return now.count;
    }

    public int fault() {
        return faultLetter;
    }

    public int told(int what) {
        switch (what) {
            case 0: return plan.width;
            case 1: return plan.height;
            case 2: return now.count;
            case 3: return plan.doors;
            case 4: return plan.comings;
            case 5: return reader.count;
            case 6: return now.hours;
            case 7: return now.turnedToWall;
            case 8: return now.knownToSomebody();
            case 9: return notes.asked;
            case 10: return notes.entries;
            default: return OUTSIDE;
        }
    }

    public int picture(int p, int what) {
        if (!now.has(p)) {
            return UNKNOWN;
        }
        switch (what) {
            case 0: return now.kind[p];
            case 1: return now.x[p];
            case 2: return now.y[p];
            case 3: return now.way[p];
            case 4: return now.knows[p];
            case 5: return now.looks[p];
            default: return OUTSIDE;
        }
    }

    public int on(int x, int y) {
        if (!plan.hasCell(x, y)) {
            return UNKNOWN;
        }
        return now.whatIsOn(plan, x, y);
    }

    public int coming(int i, int what) {
        if (what < 0 || what > 2) {
            return OUTSIDE;
        }
        if (i < 0 || i >= plan.comings) {
            return NONE;
        }
        if (what == 0) {
            return plan.comingHour[i];
        }
        return what == 1 ? plan.comingDoor[i] : plan.comingThing[i];
    }

    // ---- what is done

    public int hang(int p, int x, int y) {
        if (!now.has(p) || !plan.hasCell(x, y)) {
            return UNKNOWN;
        }
        if (now.whatIsOn(plan, x, y) != NONE) {
            return NOT;
        }
        now.x[p] = x;
        now.y[p] = y;
        now.lookAll(plan);
        return now.looks[p];
    }

    public int turn(int p, int way) {
        if (!now.has(p)) {
            return UNKNOWN;
        }
        if (way < 0 || way >= WAYS) {
            return OUTSIDE;
        }
        now.lookTo(plan, p, way);
        return now.looks[p];
    }

    public int wall(int p, boolean is) {
        if (!now.has(p)) {
            return UNKNOWN;
        }
        int was = now.isTurnedToWall(p) ? 1 : 0;
        now.turnToWall(p, is);
        now.lookAll(plan);
        return was;
    }

    public int hour(int n) {
        int refusal = refusalOfHours(n);
        if (refusal != 0) {
            return refusal;
        }
        for (int k = 0; k < n; k++) {
            now.passOneHour(plan);
        }
        return now.hours;
    }

    public int drift(int n) {
        int refusal = refusalOfHours(n);
        if (refusal != 0) {
            return refusal;
        }
        for (int k = 0; k < n; k++) {
            now.dustByDraw(plan);
            now.passOneHour(plan);
        }
        return now.hours;
    }

    // ---- tried

    public int when(int p, int t) {
        if (!now.has(p) || !isThing(t)) {
            return UNKNOWN;
        }
        return hoursOrNone(now.hoursUntil(plan, p, t));
    }

    public int hidden(int n) {
        if (n < 0 || n > MOST_HOURS) {
            return OUTSIDE;
        }
        int unseen = 0;
        int coming = plan.thingsOfComings();
        for (int t = 0; t < THINGS; t++) {
            if (holds(coming, t) && !now.isKnownBehind(plan, t, n)) {
                unseen |= 1 << t;
            }
        }
        return unseen;
    }

    public int turns(int p, int t, int set, int n, int i) {
        if (!now.has(p) || !isThing(t) || !arePictures(set)) {
            return UNKNOWN;
        }
        if (n < 0 || n > MOST_HOURS_SEARCHED) {
            return OUTSIDE;
        }
        trial.copyFrom(now);
        turning.wish(p, t, set, n);
        int many = turning.fewest(plan, trial);
        if (i == NONE) {
            return many;
        }
        return i >= 0 && i < many && i < MOST_TURNED ? turning.found[i] : NONE;
    }

    public int walled(int p, int t, int n, int what) {
        if (!now.has(p) || !isThing(t)) {
            return UNKNOWN;
        }
        if (n < 0 || n > MOST_HOURS_SEARCHED || what < 0 || what > 1) {
            return OUTSIDE;
        }
        if (now.hoursUntil(plan, p, t) > n) {
            return 0;
        }
        // One is always enough, or none is: the first picture that the look meets, turned to the
        // wall, ends it; and a look that meets no picture is ended by none.
        for (int q = 0; q < now.count; q++) {
            if (q != p && !now.isTurnedToWall(q) && staysAwayBy(q, p, t, n)) {
                return what == 0 ? 1 : 1 << q;
            }
        }
        return NONE;
    }

    public int kinds(int p, int n, int set) {
        if (!now.has(p)) {
            return UNKNOWN;
        }
        if (n < 0 || n > MOST_HOURS_SEARCHED || set < 0 || set > ALL_THINGS) {
            return OUTSIDE;
        }
        int fitting = 0;
        trial.copyFrom(now);
        for (int k = 0; k < KINDS; k++) {
            trial.kind[p] = k;
            trial.lookAll(plan);
            if (trial.knownBehind(plan, p, n) == set) {
                fitting |= 1 << k;
            }
        }
        return fitting;
    }

    public int all(int set, int t) {
        if (!arePictures(set) || !isThing(t)) {
            return UNKNOWN;
        }
        int longest = 0;
        for (int p = 0; p < now.count; p++) {
            if (holds(set, p)) {
                longest = Math.max(longest, now.hoursUntil(plan, p, t));
            }
        }
        return hoursOrNone(longest);
    }

    public int common(int set) {
        if (!arePictures(set)) {
            return UNKNOWN;
        }
        int things = ALL_THINGS;
        for (int p = 0; p < now.count; p++) {
            if (holds(set, p)) {
                things &= now.knows[p];
            }
        }
        return things;
    }

    public int safe(int n, int q) {
        if (n < 0 || n > MOST_HOURS || q < 0 || q > 100) {
            return OUTSIDE;
        }
        long odds = BILLION;
        for (int k = 0; k < n; k++) {
            odds = odds * (100 - q) / 100;
        }
        return (int) odds;
    }

    // ---- what was asked

    public int ask(int p, int t, boolean knows) {
        if (!now.has(p) || !isThing(t)) {
            return UNKNOWN;
        }
        return notes.addAsked(p, t, knows);
    }

    public int came(int t, int i) {
        if (!isThing(t)) {
            return UNKNOWN;
        }
        past.goThrough(plan, now, t);
        return i == NONE ? past.countWays(notes) : past.wayNumber(notes, i);
    }

    public int next(int t) {
        if (!isThing(t)) {
            return UNKNOWN;
        }
        past.goThrough(plan, now, t);
        return past.bestToAsk(notes);
    }

    public int write(int p, int set) {
        if (!now.has(p)) {
            return UNKNOWN;
        }
        if (set < 0 || set > ALL_THINGS) {
            return OUTSIDE;
        }
        return notes.addEntry(p, set);
    }

    public int tear() {
        int had = notes.asked + notes.entries;
        notes.empty();
        return had;
    }

    public int judge() {
        return notes.firstWrong(now);
    }

    // ---- draws, images

    public int seed(int v) {
        if (v < 0) {
            return OUTSIDE;
        }
        int was = now.drawn;
        now.drawn = v;
        return was;
    }

    public int keep(int i) {
        if (i < 0 || i >= IMAGES) {
            return UNKNOWN;
        }
        image(i).copyFrom(now);
        keptImages |= 1 << i;
        return 1;
    }

    public int goBack(int i) {
        if (i < 0 || i >= IMAGES) {
            return UNKNOWN;
        }
        if (!holds(keptImages, i)) {
            return NOT;
        }
        now.copyFrom(image(i));
        return 1;
    }

    // ---- helpers of the face

    private Scene image(int i) {
        return i == 0 ? firstImage : secondImage;
    }

    private boolean arePictures(int set) {
        return set >= 0 && set < 1 << now.count;
    }

    /** 0 when n hours may pass. */
    private int refusalOfHours(int n) {
        if (n < 1 || n > MOST_HOURS) {
            return OUTSIDE;
        }
        if (plan.width == 0) {
            return NOT;
        }
        return now.hours > HOURS_LIMIT ? FULL : 0;
    }

    private boolean staysAwayBy(int q, int p, int t, int n) {
        trial.copyFrom(now);
        trial.turnToWall(q, true);
        trial.lookAll(plan);
        return trial.hoursUntil(plan, p, t) > n;
    }

    private static boolean isThing(int t) {
        return t >= 0 && t < THINGS;
    }

    private static int hoursOrNone(int hours) {
        return hours > MOST_HOURS ? NONE : hours;
    }

    private static boolean holds(int set, int k) {
        return (set >> k & 1) != 0;
    }

    /** What the text tells and what no call moves, with the scene at hour 0. No wall: width 0. */
    private static final class Plan {
        int width;
        int height;
        int doors;
        int comings;
        int firsts;
        final int[] doorX = new int[MOST_DOORS];
        final int[] doorY = new int[MOST_DOORS];
        final int[] comingHour = new int[MOST_COMINGS];
        final int[] comingDoor = new int[MOST_COMINGS];
        final int[] comingThing = new int[MOST_COMINGS];
        final Scene start = new Scene();

        void clear() {
            width = 0;
            height = 0;
            doors = 0;
            comings = 0;
            firsts = 0;
            start.clear();
        }

        boolean hasCell(int x, int y) {
            return x >= 0 && x < width && y >= 0 && y < height;
        }

        int doorOn(int x, int y) {
            for (int d = 0; d < doors; d++) {
                if (doorX[d] == x && doorY[d] == y) {
                    return d;
                }
            }
            return NONE;
        }

        void addDoor(int x, int y) {
            if (doors < MOST_DOORS) {
                doorX[doors] = x;
                doorY[doors] = y;
                doors++;
            }
        }

        void addComing(int hour, int door, int thing) {
            if (comings < MOST_COMINGS) {
                comingHour[comings] = hour;
                comingDoor[comings] = door;
                comingThing[comings] = thing;
                comings++;
            }
        }

        int thingsOfComings() {
            int things = 0;
            for (int i = 0; i < comings; i++) {
                things |= 1 << comingThing[i];
            }
            return things;
        }

        int thingsBy(int door, int hour) {
            int things = 0;
            for (int i = 0; i < comings; i++) {
                if (comingDoor[i] == door && comingHour[i] == hour) {
                    things |= 1 << comingThing[i];
                }
            }
            return things;
        }

        /** The first hour, not ahead of a told one, at which a thing comes by a door; NEVER. */
        int firstHourBy(int door, int thing, int from) {
            int first = NEVER;
            for (int i = 0; i < comings; i++) {
                boolean isIt = comingDoor[i] == door && comingThing[i] == thing;
                if (isIt && comingHour[i] >= from && comingHour[i] < first) {
                    first = comingHour[i];
                }
            }
            return first;
        }
    }

    /** How the pictures hang and look and what they know: what is so, what is tried, an image. */
    private static final class Scene {
        private static final int[] STEP_X = {1, 0, -1, 0};
        private static final int[] STEP_Y = {0, 1, 0, -1};

        int count;
        int turnedToWall;
        int hours;
        /** The seed, as the latest draw left it. */
        int drawn;
        final int[] kind = new int[MOST_PICTURES];
        final int[] x = new int[MOST_PICTURES];
        final int[] y = new int[MOST_PICTURES];
        final int[] way = new int[MOST_PICTURES];
        final int[] knows = new int[MOST_PICTURES];
        /** What each looks at; whoever moves something in the scene sees to it that this is right. */
        final int[] looks = new int[MOST_PICTURES];
        final int[] knewBefore = new int[MOST_PICTURES];

        void clear() {
            count = 0;
            turnedToWall = 0;
            hours = 0;
            drawn = 0;
        }

        void copyFrom(Scene other) {
            count = other.count;
            turnedToWall = other.turnedToWall;
            hours = other.hours;
            drawn = other.drawn;
            System.arraycopy(other.kind, 0, kind, 0, MOST_PICTURES);
            System.arraycopy(other.x, 0, x, 0, MOST_PICTURES);
            System.arraycopy(other.y, 0, y, 0, MOST_PICTURES);
            System.arraycopy(other.way, 0, way, 0, MOST_PICTURES);
            System.arraycopy(other.knows, 0, knows, 0, MOST_PICTURES);
            System.arraycopy(other.looks, 0, looks, 0, MOST_PICTURES);
        }

        void addPicture(int itsKind, int itsX, int itsY, int itsWay) {
            if (count < MOST_PICTURES) {
                kind[count] = itsKind;
                x[count] = itsX;
                y[count] = itsY;
                way[count] = itsWay;
                knows[count] = 0;
                looks[count] = NONE;
                count++;
            }
        }

        boolean has(int p) {
            return p >= 0 && p < count;
        }

        boolean isBlind(int p) {
            return kind[p] == LANDSCAPE || kind[p] == MIRROR;
        }

        boolean isTurnedToWall(int p) {
            return (turnedToWall >> p & 1) != 0;
        }

        void turnToWall(int p, boolean is) {
            turnedToWall = is ? turnedToWall | 1 << p : turnedToWall & ~(1 << p);
        }

        int whatIsOn(Plan plan, int atX, int atY) {
            for (int p = 0; p < count; p++) {
                if (x[p] == atX && y[p] == atY) {
                    return p;
                }
            }
            int door = plan.doorOn(atX, atY);
            return door == NONE ? NONE : FIRST_DOOR + door;
        }

        void lookAll(Plan plan) {
            for (int p = 0; p < count; p++) {
                looks[p] = lookOf(plan, p, way[p]);
            }
        }

        /** Turns one picture: this changes no look but its own, for a mirror bends alike whatever its way is. */
        void lookTo(Plan plan, int p, int itsWay) {
            way[p] = itsWay;
            looks[p] = lookOf(plan, p, itsWay);
        }

        /** What a picture would look at if it looked a told way. */
        int lookOf(Plan plan, int p, int itsWay) {
            if (isBlind(p) || isTurnedToWall(p)) {
                return NONE;
            }
            int course = kind[p] == SQUINT ? itsWay + 1 & 3 : itsWay & 3;
            int atX = x[p];
            int atY = y[p];
            for (int cells = 0; cells < MOST_CELLS_SEEN; cells++) {
                atX += STEP_X[course];
                atY += STEP_Y[course];
                if (!plan.hasCell(atX, atY)) {
                    return NONE;
                }
                int met = whatIsOn(plan, atX, atY);
                if (met >= FIRST_DOOR) {
                    return met;
                }
                if (has(met)) {
                    if (met == p || isTurnedToWall(met)) {
                        return NONE;
                    }
                    if (kind[met] != MIRROR) {
                        return met;
                    }
                    course = course + 1 & 3;
                }
            }
            return NONE;
        }

        int knownToSomebody() {
            int things = 0;
            for (int p = 0; p < count; p++) {
                things |= knows[p];
            }
            return things;
        }

        /** The things that a picture takes over when it is told them. */
        int openTo(int p) {
            int itsKind = kind[p];
            if (itsKind == LANDSCAPE || itsKind == MIRROR || (turnedToWall >> p & 1) != 0) {
                return 0;
            }
            return itsKind == PROFILE ? EVEN_THINGS : ALL_THINGS;
        }

        /** By whom a picture is told: a picture; FIRST_DOOR and a door; NONE. */
        int sourceOf(int p) {
            int source = looks[p];
            return source >= 0 && source < count && kind[source] == FAKE ? NONE : source;
        }

        void passOneHour(Plan plan) {
            System.arraycopy(knows, 0, knewBefore, 0, MOST_PICTURES);
            for (int p = 0; p < count; p++) {
                int source = sourceOf(p);
                if (source >= FIRST_DOOR) {
                    knows[p] |= plan.thingsBy(source - FIRST_DOOR, hours) & openTo(p);
                } else if (has(source)) {
                    knows[p] |= knewBefore[source] & openTo(p);
                }
            }
            hours++;
        }

        /**
         * The fewest hours behind which a picture knows a thing; NEVER. Each looks at one only, so
         * it is told along one chain: by the nearest there who knows it now, or by the door at its end.
         */
        int hoursUntil(Plan plan, int p, int t) {
            int teller = p;
            for (int links = 0; links <= MOST_PICTURES && has(teller); links++) {
                if (holds(knows[teller], t)) {
                    return links;
                }
                if (!holds(openTo(teller), t)) {
                    return NEVER;
                }
                int source = sourceOf(teller);
                if (source >= FIRST_DOOR) {
                    int first = plan.firstHourBy(source - FIRST_DOOR, t, hours);
                    return first == NEVER ? NEVER : first - hours + 1 + links;
                }
                teller = source;
            }
            return NEVER;
        }

        int knownBehind(Plan plan, int p, int n) {
            int things = 0;
            for (int t = 0; t < THINGS; t++) {
                if (hoursUntil(plan, p, t) <= n) {
                    things |= 1 << t;
                }
            }
            return things;
        }

        boolean isKnownBehind(Plan plan, int t, int n) {
            for (int p = 0; p < count; p++) {
                if (hoursUntil(plan, p, t) <= n) {
                    return true;
                }
            }
            return false;
        }

        int draw(int n) {
            long grown = drawn * 1103515245L + 12345L;
            drawn = (int) (grown & 2147483647L);
            return n > 0 ? drawn / 65536 % n : 0;
        }

        void dustByDraw(Plan plan) {
            if (draw(4) != 0 || count == 0) {
                return;
            }
            int p = draw(count);
            if (has(p)) {
                lookTo(plan, p, way[p] + 1 & 3);
            }
        }
    }

    /** Collects the text and reads it, up to its first fault. */
    private static final class Reader {
        private static final int MISPLACED = 1;
        private static final int OUT_OF_BOUNDS = 2;
        private static final int TOO_MANY = 3;
        private static final int TAKEN = 4;

        final int[] letters = new int[MOST_LETTERS];
        int count;
        int at;
        int numberAt;
        int faultNumber;
        int faultAt = NONE;

        int append(int letter) {
            if (count >= MOST_LETTERS) {
                return FULL;
            }
            letters[count] = letter;
            count++;
            return count;
        }

        void empty() {
            count = 0;
        }

        /** The number of the first fault; 0: there is none, and the plan is whole. */
        int readInto(Plan plan) {
            plan.clear();
            at = 0;
            faultNumber = 0;
            faultAt = NONE;
            skipBlanks();
            for (int clauses = 0; clauses < MOST_LETTERS && at < count && faultNumber == 0; clauses++) {
                readClause(plan);
                skipBlanks();
            }
            return faultNumber;
        }

        /** Only the first fault counts: what is read behind it is skipped, so it is the leftmost one. */
        private void failAt(int letter, int number) {
            if (faultNumber == 0) {
                faultNumber = number;
                faultAt = letter;
            }
        }

        private int letterHere() {
            return at >= 0 && at < count ? letters[at] : NONE;
        }

        private void skipBlanks() {
            while (at < count && letterHere() == ' ') {
                at++;
            }
        }

        private static boolean isFigure(int letter) {
            return letter >= '0' && letter <= '9';
        }

        private static boolean isWord(int letter) {
            return letter == 'w' || letter == 'p' || letter == 'd' || letter == 'e' || letter == 's';
        }

        private static boolean isOneTooMany(Plan plan, int word) {
            switch (word) {
                case 'w': return plan.width > 0;
                case 'p': return plan.start.count >= MOST_PICTURES;
                case 'd': return plan.doors >= MOST_DOORS;
                case 'e': return plan.comings >= MOST_COMINGS;
                default: return plan.firsts >= MOST_FIRSTS;
            }
        }

        private void readClause(Plan plan) {
            int word = letterHere();
            if (!isWord(word) || plan.width == 0 && word != 'w') {
                failAt(at, MISPLACED);
                return;
            }
            if (isOneTooMany(plan, word)) {
                failAt(at, TOO_MANY);
                return;
            }
            at++;
            switch (word) {
                case 'w': readWall(plan); break;
                case 'p': readPicture(plan); break;
                case 'd': readDoor(plan); break;
                case 'e': readComing(plan); break;
                default: readFirst(plan); break;
            }
        }

        private void readWall(Plan plan) {
            int width = readNumber(1, LONGEST_SIDE);
            int height = readNumber(1, LONGEST_SIDE);
            readEnd();
            if (faultNumber == 0) {
                plan.width = width;
                plan.height = height;
            }
        }

        private void readPicture(Plan plan) {
            int kind = readNumber(0, KINDS - 1);
            int x = readNumber(0, plan.width - 1);
            int y = readNumber(0, plan.height - 1);
            refuseTakenCell(plan, x, y);
            int way = readNumber(0, WAYS - 1);
            readEnd();
            if (faultNumber == 0) {
                plan.start.addPicture(kind, x, y, way);
            }
        }

        private void readDoor(Plan plan) {
            int x = readNumber(0, plan.width - 1);
            int y = readNumber(0, plan.height - 1);
            refuseTakenCell(plan, x, y);
            readEnd();
            if (faultNumber == 0) {
                plan.addDoor(x, y);
            }
        }

        private void readComing(Plan plan) {
            int hour = readNumber(0, LAST_COMING_HOUR);
            int door = readNumber(0, plan.doors - 1);
            int thing = readNumber(0, THINGS - 1);
            readEnd();
            if (faultNumber == 0) {
                plan.addComing(hour, door, thing);
            }
        }

        private void readFirst(Plan plan) {
            Scene start = plan.start;
            int p = readNumber(0, start.count - 1);
            if (faultNumber == 0 && start.has(p) && start.isBlind(p)) {
                failAt(numberAt, TAKEN);
            }
            int thing = readNumber(0, THINGS - 1);
            if (faultNumber == 0 && start.has(p) && holds(start.knows[p], thing)) {
                failAt(numberAt, TAKEN);
            }
            readEnd();
            if (faultNumber == 0 && start.has(p)) {
                start.knows[p] |= 1 << thing;
                plan.firsts++;
            }
        }

        private void refuseTakenCell(Plan plan, int x, int y) {
            if (faultNumber == 0 && plan.start.whatIsOn(plan, x, y) != NONE) {
                failAt(numberAt, TAKEN);
            }
        }

        /** A number within its bounds; 0 with a fault. */
        private int readNumber(int least, int most) {
            if (faultNumber != 0) {
                return 0;
            }
            skipBlanks();
            numberAt = at;
            if (!isFigure(letterHere())) {
                failAt(at, MISPLACED);
                return 0;
            }
            int value = 0;
            int figures = 0;
            while (at < count && isFigure(letterHere())) {
                // More than three figures are a fault whatever they are, so they need not be added up.
                value = figures < 3 ? value * 10 + letterHere() - '0' : value;
                figures++;
                at++;
            }
            if (figures > 3 || value < least || value > most) {
                failAt(numberAt, OUT_OF_BOUNDS);
                return 0;
            }
            return value;
        }

        private void readEnd() {
            if (faultNumber != 0) {
                return;
            }
            skipBlanks();
            if (letterHere() != ';') {
                failAt(at, MISPLACED);
                return;
            }
            at++;
        }
    }

    /** What was asked, and the book. */
    private static final class Notes {
        int asked;
        int entries;
        private final int[] askedPicture = new int[MOST_ASKED];
        private final int[] askedThing = new int[MOST_ASKED];
        private final int[] askedAnswer = new int[MOST_ASKED];
        private final int[] entryPicture = new int[MOST_ENTRIES];
        private final int[] entrySet = new int[MOST_ENTRIES];

        void empty() {
            asked = 0;
            entries = 0;
        }

        int addAsked(int p, int t, boolean knows) {
            if (asked >= MOST_ASKED) {
                return FULL;
            }
            askedPicture[asked] = p;
            askedThing[asked] = t;
            askedAnswer[asked] = knows ? 1 : 0;
            asked++;
            return asked;
        }

        int addEntry(int p, int set) {
            if (entries >= MOST_ENTRIES) {
                return FULL;
            }
            entryPicture[entries] = p;
            entrySet[entries] = set;
            entries++;
            return entries;
        }

        /** Whether all that was asked of a thing is so when just these pictures know it. */
        boolean fit(int t, int knowers) {
            for (int k = 0; k < asked; k++) {
                if (askedThing[k] == t && (knowers >> askedPicture[k] & 1) != askedAnswer[k]) {
                    return false;
                }
            }
            return true;
        }

        int firstWrong(Scene scene) {
            for (int k = 0; k < entries; k++) {
                int p = entryPicture[k];
                if (scene.has(p) && scene.knows[p] != entrySet[k]) {
                    return k;
                }
            }
            return NONE;
        }
    }

    /** Searches the fewest pictures to be turned so that one knows a thing and others do not. */
    private static final class Turning {
        /** 10 times the picture and its way, of each picture to be turned. */
        final int[] found = new int[MOST_TURNED];
        /** What each picture would look at, for each of its ways. */
        private final int[] lookBy = new int[MOST_PICTURES * WAYS];
        private int knower;
        private int thing;
        private int ignorant;
        private int hours;

        void wish(int p, int t, int set, int n) {
            knower = p;
            thing = t;
            ignorant = set;
            hours = n;
        }

        /** How many must be turned; NONE. The scene is used up by it. */
        int fewest(Plan plan, Scene scene) {
            for (int p = 0; p < scene.count; p++) {
                for (int way = 0; way < WAYS; way++) {
                    lookBy[p * WAYS + way] = scene.lookOf(plan, p, way);
                }
            }
            if (isFulfilled(plan, scene)) {
                return 0;
            }
            if (canTurnOne(plan, scene, 0, 0)) {
                return 1;
            }
            return canTurnTwo(plan, scene) ? 2 : NONE;
        }

        /** Tries each picture from a told one on; the first that fits is found at a told place. */
        private boolean canTurnOne(Plan plan, Scene scene, int from, int place) {
            for (int p = from; p < scene.count; p++) {
                int look = scene.looks[p];
                for (int way = 0; way < WAYS; way++) {
                    scene.looks[p] = lookBy[p * WAYS + way];
                    if (way != scene.way[p] && isFulfilled(plan, scene)) {
                        found[place] = 10 * p + way;
                        return true;
                    }
                }
                scene.looks[p] = look;
            }
            return false;
        }

        private boolean canTurnTwo(Plan plan, Scene scene) {
            for (int p = 0; p < scene.count; p++) {
                int look = scene.looks[p];
                for (int way = 0; way < WAYS; way++) {
                    scene.looks[p] = lookBy[p * WAYS + way];
                    if (way != scene.way[p] && canTurnOne(plan, scene, p + 1, 1)) {
                        found[0] = 10 * p + way;
                        return true;
                    }
                }
                scene.looks[p] = look;
            }
            return false;
        }

        private boolean isFulfilled(Plan plan, Scene scene) {
            if (scene.hoursUntil(plan, knower, thing) > hours) {
                return false;
            }
            for (int p = 0; p < scene.count; p++) {
                if (holds(ignorant, p) && scene.hoursUntil(plan, p, thing) <= hours) {
                    return false;
                }
            }
            return true;
        }
    }

    /** Goes through the hours that were, a thing coming once: by which door, at which hour. */
    private static final class Past {
        /** The door at which each one's chain of looks ends; NONE: the thing never comes to it. */
        private final int[] doorOf = new int[MOST_PICTURES];
        /** How many pictures are between each and its door: an hour each. */
        private final int[] linksOf = new int[MOST_PICTURES];
        private final int[] knowingWays = new int[MOST_PICTURES];
        private int pictures;
        private int doors;
        private int hours;
        private int hoursToTry;
        private int thing;

        void goThrough(Plan plan, Scene scene, int t) {
            pictures = scene.count;
            doors = plan.doors;
            hours = scene.hours;
            hoursToTry = Math.min(hours, LAST_HOUR_GONE_THROUGH + 1);
            thing = t;
            for (int p = 0; p < pictures; p++) {
                followChain(scene, p);
            }
        }

        private void followChain(Scene scene, int p) {
            doorOf[p] = NONE;
            int teller = p;
            for (int links = 0; links < MOST_PICTURES && scene.has(teller); links++) {
                if (!holds(scene.openTo(teller), thing)) {
                    return;
                }
                int source = scene.sourceOf(teller);
                if (source >= FIRST_DOOR) {
                    doorOf[p] = source - FIRST_DOOR;
                    linksOf[p] = links;
                    return;
                }
                teller = source;
            }
        }

        /** Who knows the thing now if it came by a door at an hour. */
        private int knowersOf(int door, int hour) {
            int knowers = 0;
            for (int p = 0; p < pictures; p++) {
                if (doorOf[p] == door && hour + 1 + linksOf[p] <= hours) {
                    knowers |= 1 << p;
                }
            }
            return knowers;
        }

        int countWays(Notes notes) {
            int ways = 0;
            for (int hour = 0; hour < hoursToTry; hour++) {
                for (int door = 0; door < doors; door++) {
                    if (notes.fit(thing, knowersOf(door, hour))) {
                        ways++;
                    }
                }
            }
            return ways;
        }

        /** 10 times the hour and the door of the i-th way; NONE. */
        int wayNumber(Notes notes, int i) {
            int ways = 0;
            for (int hour = 0; hour < hoursToTry; hour++) {
                for (int door = 0; door < doors; door++) {
                    if (notes.fit(thing, knowersOf(door, hour))) {
                        if (ways == i) {
                            return 10 * hour + door;
                        }
                        ways++;
                    }
                }
            }
            return NONE;
        }

        int bestToAsk(Notes notes) {
            int ways = countKnowingWays(notes);
            int best = NONE;
            int least = ways;
            for (int p = 0; p < pictures; p++) {
                int greatest = Math.max(knowingWays[p], ways - knowingWays[p]);
                if (greatest < least) {
                    least = greatest;
                    best = p;
                }
            }
            return best;
        }

        /** How many ways fit; and of these, for each picture, by how many it knows the thing. */
        private int countKnowingWays(Notes notes) {
            Arrays.fill(knowingWays, 0);
            int ways = 0;
            for (int hour = 0; hour < hoursToTry; hour++) {
                for (int door = 0; door < doors; door++) {
                    int knowers = knowersOf(door, hour);
                    if (notes.fit(thing, knowers)) {
                        ways++;
                        for (int p = 0; p < pictures; p++) {
                            knowingWays[p] += knowers >> p & 1;
                        }
                    }
                }
            }
            return ways;
        }
    }
}
