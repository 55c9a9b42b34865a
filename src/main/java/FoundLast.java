/**
 * Heirs who hide in a house, and an old seeker who looks for them by a list:
 * whoever is found last loses.
 */
public final class FoundLast {
    public static final int NONE = -1, BAD = -2, NO = -3, FULL = -4;

    private static final int ROOMS = 8;
    private static final int HEIRS_MOST = 6;
    private static final int LIST_MOST = 12;
    private static final int SEEN_MOST = 6;
    private static final int PAST_MOST = 8;
    private static final int IMAGES = 2;
    private static final int TEXT_MOST = 150;

    private static final int HIDES_MOST = 9;
    private static final int CREAKS_MOST = 9;
    private static final int POISE_MOST = 9;
    private static final int KIND_MOST = 5;
    private static final int EYES_MOST = 25;
    private static final int RULE_MOST = 25;
    private static final int LOOKS_MOST = 99;
    private static final int BYTE_MOST = 127;
    private static final int SEED_MOST = 999999;
    private static final int SEED_NIGHTS_MOST = 30;

    private static final int AHEAD = 60;
    private static final int WAY_NIGHTS = 12;
    private static final int LAST_STEP = 12;
    private static final int STAYED_COUNTS = 5;

    private static final int IN = 0, OUT = 1, FOUND = 2;
    private static final int NEVER = 2147483647;

    private final House house = new House();
    private final Past past = new Past();
    private final House draft = new House();
    private final House[] keptHouses = new House[IMAGES];
    private final Past[] keptPasts = new Past[IMAGES];
    private final boolean[] kept = new boolean[IMAGES];
    private final Forecast forecast = new Forecast();
    private final WayFinder wayFinder = new WayFinder();
    private final Walks walks = new Walks();
    private final TextReader reader = new TextReader();
    private final byte[] text = new byte[TEXT_MOST];
    private int textSize = 0;
    private long above = 0;
    private long below = 1;
    private int bads = 0;
    private int nos = 0;
    private int fulls = 0;

    public FoundLast() {
        for (int i = 0; i < IMAGES; i++) {
            keptHouses[i] = new House();
            keptPasts[i] = new Past();
        }
    }

    // ---- a house

    public int house(int eyes, int rule) {
        if (!within(eyes, 0, EYES_MOST) || !within(rule, 0, RULE_MOST)) {
            return refuseBad();
        }
        int had = house.heirs;
        house.restart(eyes, rule);
        past.size = 0;
        return had;
    }

    public int room(int k, int hides) {
        if (!isRoom(k) || !within(hides, 0, HIDES_MOST)) {
            return refuseBad();
        }
        int was = house.hides[k];
        house.hides[k] = hides;
        return was;
    }

    public int door(int a, int b, int creaks) {
        if (!isRoom(a) || !isRoom(b) || a == b || !within(creaks, 1, CREAKS_MOST)) {
            return refuseBad();
        }
        int was = house.creaksBetween(a, b);
        house.hang(a, b, creaks);
        return was;
    }

    public int list(int room) {
        if (!isRoom(room)) {
            return refuseBad();
        }
        if (house.rowSize >= LIST_MOST) {
            return refuseFull();
        }
        house.row[house.rowSize] = room;
        house.rowSize++;
        return house.rowSize;
    }

    public int only(int room) {
        if (!isRoom(room)) {
            return refuseBad();
        }
        int had = house.rowSize;
        house.row[0] = room;
        house.rowSize = 1;
        return had;
    }

    public int eyes(int n) {
        if (!within(n, 0, EYES_MOST)) {
            return refuseBad();
        }
        int were = house.eyes;
        house.eyes = n;
        return were;
    }

    public int heir(int kind, int room, int poise) {
        if (!within(kind, 0, KIND_MOST) || !isRoom(room) || !within(poise, 0, POISE_MOST)) {
            return refuseBad();
        }
        if (house.heirs >= HEIRS_MOST) {
            return refuseFull();
        }
        past.size = 0;
        return house.bring(kind, room, poise);
    }

    public int type(int c) {
        if (!within(c, 0, BYTE_MOST)) {
            return refuseBad();
        }
        if (textSize >= TEXT_MOST) {
            return refuseFull();
        }
        text[textSize] = (byte) c;
        textSize++;
        return textSize;
    }

    public int clear() {
        int had = textSize;
        textSize = 0;
        return had;
    }

    public int read() {
        int answer = reader.readInto(draft, text, textSize);
        // A draft takes the faults, so that the house stays if there is one.
        if (answer >= 0) {
            house.take(draft);
            past.size = 0;
        }
        return answer;
    }

    // ---- nights

    public int move(int heir, int room) {
        if (!isHeir(heir) || !isRoom(room)) {
            return refuseBad();
        }
        Scene now = house.now;
        int creaks = house.creaksBetween(now.room[heir], room);
        if (now.how[heir] != IN || creaks == 0 || now.moved[heir] == 1) {
            return refuseNo();
        }
        past.keep(now);
        now.go(heir, room);
        return creaks;
    }

    public int night() {
        past.keep(house.now);
        return house.runNight(house.now, house.eyes);
    }

    public int undo() {
        if (past.size == 0) {
            return refuseNo();
        }
        past.bringBack(house.now);
        return house.now.night;
    }

    public int of(int heir, int what) {
        if (!isHeir(heir)) {
            return refuseBad();
        }
        Scene now = house.now;
        switch (what) {
            case 0: return house.kind[heir];
            case 1: return now.room[heir];
            case 2: return house.poise[heir];
            case 3: return now.stayed[heir];
            case 4: return house.hidden(now, heir);
            case 5: return now.how[heir];
            case 6: return now.since[heir];
            default: return refuseBad();
        }
    }

    // ---- where he looks

    public int looks(int n) {
        if (!within(n, 0, LOOKS_MOST)) {
            return refuseBad();
        }
        return house.lookedInto(n);
    }

    public int byThen(int heir, int n, int what) {
        if (!isHeir(heir) || !within(n, 1, AHEAD) || !within(what, 0, 1)) {
            return refuseBad();
        }
        Scene then = forecast.after(house, n);
        return what == 0 ? then.how[heir] : then.since[heir];
    }

    public int first(int what) {
        if (!within(what, 0, 1)) {
            return refuseBad();
        }
        int found = forecast.firstFound(house);
        if (found == 0) {
            return NONE;
        }
        return what == 0 ? forecast.scene.night - 1 : found;
    }

    public int passed() {
        Scene now = house.now;
        int out = house.goingOut(now);
        return house.inSight(now, out) & ~house.beingFound(now, out, house.eyes);
    }

    public int hide(int heir) {
        if (!isHeir(heir)) {
            return refuseBad();
        }
        if (!isIn(heir)) {
            return refuseNo();
        }
        return forecast.bestRoom(house, heir);
    }

    public int way(int heir, int what) {
        if (!isHeir(heir) || !within(what, 0, 1)) {
            return refuseBad();
        }
        if (!isIn(heir)) {
            return refuseNo();
        }
        wayFinder.search(house, heir);
        return what == 0 ? wayFinder.foundIn : wayFinder.fewest;
    }

    public int choose(int a, int b) {
        if (!isHeir(a) || !isHeir(b) || a == b) {
            return refuseBad();
        }
        if (!isIn(a) || !isIn(b)) {
            return refuseNo();
        }
        return forecast.restingPairs(house, a, b);
    }

    public int odds(int heir) {
        if (!isHeir(heir)) {
            return refuseBad();
        }
        int lucky = forecast.luckyEyes(house, heir);
        int shared = greatestShared(lucky, EYES_MOST);
        above = lucky / shared;
        below = EYES_MOST / shared;
        return 1;
    }

    // ---- what was seen

    public int seen(int room, int m, int there) {
        if (!isRoom(room) || !within(m, 0, LAST_STEP) || !within(there, 0, 1)) {
            return refuseBad();
        }
        if (house.seens >= SEEN_MOST) {
            return refuseFull();
        }
        return house.witness(room, m, there);
    }

    public int forget() {
        int were = house.seens;
        house.seens = 0;
        return were;
    }

    public int may(int m) {
        if (!within(m, 0, LAST_STEP)) {
            return refuseBad();
        }
        walks.countThrough(house, m);
        return walks.roomsPossible();
    }

    public long ways() {
        walks.countThrough(house, 0);
        return walks.total();
    }

    public int peek(int m) {
        if (!within(m, 0, LAST_STEP)) {
            return refuseBad();
        }
        walks.countThrough(house, m);
        return walks.roomThatTells();
    }

    public int nights(int seed, int n) {
        if (!within(seed, 0, SEED_MOST) || !within(n, 0, SEED_NIGHTS_MOST)) {
            return refuseBad();
        }
        return forecast.foundBySeed(house, seed, n);
    }

    // ---- what there is

    public long part(int what) {
        if (!within(what, 0, 1)) {
            return refuseBad();
        }
        return what == 0 ? above : below;
    }

    public int image(int i) {
        if (!within(i, 0, IMAGES - 1)) {
            return refuseBad();
        }
        keptHouses[i].take(house);
        keptPasts[i].take(past);
        kept[i] = true;
        return 1;
    }

    public int from(int i) {
        if (!within(i, 0, IMAGES - 1)) {
            return refuseBad();
        }
        if (!kept[i]) {
            return refuseNo();
        }
        house.take(keptHouses[i]);
        past.take(keptPasts[i]);
        return 1;
    }

    public int status(int what) {
        switch (what) {
            case 0: return bads;
            case 1: return nos;
            case 2: return fulls;
            default:
                refuseBad();
                return -1;
        }
    }

    public int count(int what) {
        if (!within(what, 0, 8)) {
            return refuseBad();
        }
        return counted(what);
    }

    public long digest() {
        long h = 1033;
        for (int what = 0; what <= 8; what++) {
            h = 31 * h + counted(what);
        }
        h = house.digestRooms(h);
        h = house.digestHeirs(h);
        h = house.digestSeen(h);
        h = 31 * h + above;
        return 31 * h + below;
    }

    private int counted(int what) {
        switch (what) {
            case 0: return house.heirs;
            case 1: return house.eyes;
            case 2: return house.rule;
            case 3: return house.now.night;
            case 4: return house.heirsThat(house.now, IN);
            case 5: return house.rowSize;
            case 6: return house.seens;
            case 7: return past.size;
            default: return textSize;
        }
    }

    private boolean isHeir(int heir) {
        return within(heir, 0, house.heirs - 1);
    }

    private boolean isIn(int heir) {
        return house.now.how[heir] == IN;
    }

    private static boolean isRoom(int room) {
        return within(room, 0, ROOMS - 1);
    }

    private static boolean within(int n, int least, int most) {
        return n >= least && n <= most;
    }

    private int refuseBad() {
        bads++;
        return BAD;
    }

    private int refuseNo() {
        nos++;
        return NO;
    }

    private int refuseFull() {
        fulls++;
        return FULL;
    }

    /** Of 0 and n it is n: so 0 comes out as 0 by 1. */
    private static int greatestShared(int a, int b) {
        int larger = Math.max(b, 1);
        int smaller = a;
        for (int i = 0; i < 32 && smaller > 0; i++) {
            int rest = larger % smaller;
            larger = smaller;
            smaller = rest;
        }
        return Math.max(1, larger);
    }

    /** What a NIGHT or a MOVE changes, and an undo brings back. */
    private static final class Scene {
        int night = 0;
        final int[] room = new int[HEIRS_MOST];
        final int[] stayed = new int[HEIRS_MOST];
        final int[] how = new int[HEIRS_MOST];
        final int[] since = new int[HEIRS_MOST];
        final int[] moved = new int[HEIRS_MOST];

        void place(int heir, int where) {
            room[heir] = where;
            stayed[heir] = 0;
            how[heir] = IN;
            since[heir] = NONE;
            moved[heir] = 0;
        }

        void go(int heir, int where) {
            room[heir] = where;
            stayed[heir] = 0;
            moved[heir] = 1;
        }

        /** The end of a NIGHT for those whose bits are told, and for all others. */
        void close(int heirs, int out, int found) {
            for (int h = 0; h < heirs; h++) {
                if ((out >> h & 1) == 1) {
                    leave(h, OUT);
                } else if ((found >> h & 1) == 1) {
                    leave(h, FOUND);
                } else if (how[h] == IN) {
                    stayed[h]++;
                }
                moved[h] = 0;
            }
            night++;
        }

        private void leave(int heir, int state) {
            how[heir] = state;
            since[heir] = night;
        }

        void take(Scene other) {
            night = other.night;
            System.arraycopy(other.room, 0, room, 0, HEIRS_MOST);
            System.arraycopy(other.stayed, 0, stayed, 0, HEIRS_MOST);
            System.arraycopy(other.how, 0, how, 0, HEIRS_MOST);
            System.arraycopy(other.since, 0, since, 0, HEIRS_MOST);
            System.arraycopy(other.moved, 0, moved, 0, HEIRS_MOST);
        }
    }

    /** The scenes that may be brought back, the oldest first. */
    private static final class Past {
        final Scene[] scenes = new Scene[PAST_MOST];
        int size = 0;

        Past() {
            for (int i = 0; i < PAST_MOST; i++) {
                scenes[i] = new Scene();
            }
        }

        void keep(Scene now) {
            if (size >= PAST_MOST) {
                dropOldest();
            }
            scenes[size].take(now);
            size++;
        }

        /** Its object goes to the end to be used again: none is made anew. */
        private void dropOldest() {
            Scene oldest = scenes[0];
            for (int i = 1; i < PAST_MOST; i++) {
                scenes[i - 1] = scenes[i];
            }
            scenes[PAST_MOST - 1] = oldest;
            size = PAST_MOST - 1;
        }

        void bringBack(Scene now) {
            if (size > 0) {
                size--;
                now.take(scenes[size]);
            }
        }

        void take(Past other) {
            size = other.size;
            for (int i = 0; i < size; i++) {
                scenes[i].take(other.scenes[i]);
            }
        }
    }

    /** All that an image keeps, but for the past. */
    private static final class House {
        private static final int EYES_FIRST = 10;
        private static final int RULE_FIRST = 3;
        private static final int HIDES_FIRST = 5;
        private static final int COUGH = 3;
        private static final int RING = 2;
        private static final int WEEK = 7;
        private static final int FEAST = 6;

        int eyes;
        int rule;
        final int[] hides = new int[ROOMS];
        final int[] creaks = new int[ROOMS * ROOMS];
        final int[] row = new int[LIST_MOST];
        int rowSize;
        int heirs;
        final int[] kind = new int[HEIRS_MOST];
        final int[] poise = new int[HEIRS_MOST];
        final Scene now = new Scene();
        int seens;
        final int[] seenRoom = new int[SEEN_MOST];
        final int[] seenStep = new int[SEEN_MOST];
        final int[] seenThere = new int[SEEN_MOST];

        House() {
            restart(EYES_FIRST, RULE_FIRST);
        }

        void restart(int newEyes, int newRule) {
            eyes = newEyes;
            rule = newRule;
            for (int r = 0; r < ROOMS; r++) {
                hides[r] = HIDES_FIRST;
            }
            for (int d = 0; d < ROOMS * ROOMS; d++) {
                creaks[d] = 0;
            }
            row[0] = 0;
            rowSize = 1;
            heirs = 0;
            now.night = 0;
            seens = 0;
        }

        void take(House other) {
            eyes = other.eyes;
            rule = other.rule;
            System.arraycopy(other.hides, 0, hides, 0, ROOMS);
            System.arraycopy(other.creaks, 0, creaks, 0, ROOMS * ROOMS);
            System.arraycopy(other.row, 0, row, 0, LIST_MOST);
            rowSize = other.rowSize;
            heirs = other.heirs;
            System.arraycopy(other.kind, 0, kind, 0, HEIRS_MOST);
            System.arraycopy(other.poise, 0, poise, 0, HEIRS_MOST);
            now.take(other.now);
            seens = other.seens;
            System.arraycopy(other.seenRoom, 0, seenRoom, 0, SEEN_MOST);
            System.arraycopy(other.seenStep, 0, seenStep, 0, SEEN_MOST);
            System.arraycopy(other.seenThere, 0, seenThere, 0, SEEN_MOST);
        }

        int creaksBetween(int a, int b) {
            return creaks[a * ROOMS + b];
        }

        void hang(int a, int b, int loudness) {
            creaks[a * ROOMS + b] = loudness;
            creaks[b * ROOMS + a] = loudness;
        }

        int bring(int newKind, int where, int newPoise) {
            int heir = heirs;
            kind[heir] = newKind;
            poise[heir] = newPoise;
            now.place(heir, where);
            heirs++;
            return heir;
        }

        int witness(int where, int step, int there) {
            seenRoom[seens] = where;
            seenStep[seens] = step;
            seenThere[seens] = there;
            seens++;
            return seens;
        }

        int lookedInto(int night) {
            // The list never is empty; the test keeps the divisor safe.
            if (rowSize < 1) {
                return row[0];
            }
            int place = night % rowSize;
            return night % WEEK == FEAST ? row[rowSize - 1 - place] : row[place];
        }

        /** Each kind begins with what the kind above it has. */
        int hidden(Scene s, int heir) {
            int stayed = s.stayed[heir];
            int plain = hides[s.room[heir]] + poise[heir];
            int coughs = Math.max(0, plain - COUGH);
            int still = plain + Math.min(STAYED_COUNTS, stayed);
            switch (kind[heir]) {
                case 1: return coughs;
                case 2: return hasCompany(s, heir) ? plain / 2 : plain;
                case 3: return still;
                case 4: return stayed == 0 ? Math.max(0, coughs - RING) : coughs;
                case 5: return Math.min(rule, still);
                default: return plain;
            }
        }

        private boolean hasCompany(Scene s, int heir) {
            for (int h = 0; h < heirs; h++) {
                if (h != heir && s.how[h] == IN && s.room[h] == s.room[heir]) {
                    return true;
                }
            }
            return false;
        }

        int heirsThat(Scene s, int state) {
            int n = 0;
            for (int h = 0; h < heirs; h++) {
                if (s.how[h] == state) {
                    n++;
                }
            }
            return n;
        }

        /** Bits of those whom THE RULE puts out in the night of the scene. */
        int goingOut(Scene s) {
            int bits = 0;
            for (int h = 0; h < heirs; h++) {
                if (s.how[h] == IN && hidden(s, h) < rule) {
                    bits |= 1 << h;
                }
            }
            return bits;
        }

        /** Bits of those who are in the room into which he looks, but for those out. */
        int inSight(Scene s, int out) {
            int looked = lookedInto(s.night);
            int bits = 0;
            for (int h = 0; h < heirs; h++) {
                if (s.how[h] == IN && s.room[h] == looked) {
                    bits |= 1 << h;
                }
            }
            return bits & ~out;
        }

        int beingFound(Scene s, int out, int sharpness) {
            int sight = inSight(s, out);
            int bits = 0;
            for (int h = 0; h < heirs; h++) {
                if ((sight >> h & 1) == 1 && hidden(s, h) < sharpness) {
                    bits |= 1 << h;
                }
            }
            return bits;
        }

        /** Nobody's state changes before all bits are known: all are hidden as they were. */
        int runNight(Scene s, int sharpness) {
            int out = goingOut(s);
            int found = beingFound(s, out, sharpness);
            s.close(heirs, out, found);
            return found;
        }

        long digestRooms(long start) {
            long h = start;
            for (int r = 0; r < ROOMS; r++) {
                h = 31 * h + hides[r];
            }
            for (int a = 0; a < ROOMS; a++) {
                for (int b = a + 1; b < ROOMS; b++) {
                    h = 31 * h + creaksBetween(a, b);
                }
            }
            for (int i = 0; i < rowSize; i++) {
                h = 31 * h + row[i];
            }
            return h;
        }

        long digestHeirs(long start) {
            long h = start;
            for (int i = 0; i < heirs; i++) {
                h = 31 * h + kind[i];
                h = 31 * h + now.room[i];
                h = 31 * h + poise[i];
                h = 31 * h + now.stayed[i];
                h = 31 * h + now.how[i];
                h = 31 * h + now.since[i];
                h = 31 * h + now.moved[i];
            }
            return h;
        }

        long digestSeen(long start) {
            long h = start;
            for (int i = 0; i < seens; i++) {
                h = 31 * h + seenRoom[i];
                h = 31 * h + seenStep[i];
                h = 31 * h + seenThere[i];
            }
            return h;
        }
    }

    /** Nights tried on a scene of its own, so that the house keeps its own. */
    private static final class Forecast {
        private static final int PAIRS = 4;
        private static final long FACTOR = 1103515245L;
        private static final long ADDED = 12345L;
        private static final long MODULUS = 2147483648L;
        private static final long CUT = 65536L;

        final Scene scene = new Scene();
        private final int[] points = new int[PAIRS];

        Scene after(House house, int n) {
            scene.take(house.now);
            for (int i = 0; i < n; i++) {
                house.runNight(scene, house.eyes);
            }
            return scene;
        }

        /** Bits of those found first, 0 if none; the scene then stands behind that night. */
        int firstFound(House house) {
            scene.take(house.now);
            int found = 0;
            for (int i = 0; i < AHEAD && found == 0; i++) {
                found = house.runNight(scene, house.eyes);
            }
            return found;
        }

        int bestRoom(House house, int heir) {
            int best = NONE;
            int soonest = NEVER;
            for (int r = 0; r < ROOMS; r++) {
                scene.take(house.now);
                scene.room[heir] = r;
                runUntilNoMoreIn(house, heir, heir);
                int night = foundNight(heir);
                if (night < soonest) {
                    soonest = night;
                    best = r;
                }
            }
            return best;
        }

        private void runUntilNoMoreIn(House house, int a, int b) {
            for (int i = 0; i < AHEAD && (scene.how[a] == IN || scene.how[b] == IN); i++) {
                house.runNight(scene, house.eyes);
            }
        }

        private int foundNight(int heir) {
            return scene.how[heir] == FOUND ? scene.since[heir] : NEVER;
        }

        /** A pair's number is its bits: 1 if a goes, 2 if b goes. */
        int restingPairs(House house, int a, int b) {
            for (int pair = 0; pair < PAIRS; pair++) {
                begin(house, (pair & 1) != 0 ? a : NONE, (pair & 2) != 0 ? b : NONE);
                runUntilNoMoreIn(house, a, b);
                points[pair] = 1 - Integer.compare(foundNight(a), foundNight(b));
            }
            int bits = 0;
            for (int pair = 0; pair < PAIRS; pair++) {
                // What a has b has not: b would like the fewest points of a.
                if (points[pair] >= points[pair ^ 1] && points[pair] <= points[pair ^ 2]) {
                    bits |= 1 << pair;
                }
            }
            return bits;
        }

        private void begin(House house, int goer, int otherGoer) {
            scene.take(house.now);
            if (goer != NONE) {
                goThroughLeastDoor(house, goer);
            }
            if (otherGoer != NONE) {
                goThroughLeastDoor(house, otherGoer);
            }
        }

        private void goThroughLeastDoor(House house, int heir) {
            int here = scene.room[heir];
            for (int r = 0; r < ROOMS; r++) {
                if (house.creaksBetween(here, r) > 0) {
                    scene.go(heir, r);
                    return;
                }
            }
        }

        /**
         * By how many of EYES 1 .. 25 the heir is among those found first. Until somebody is found
         * EYES change nothing: so one run of nights in which he sees nobody serves all of them.
         */
        int luckyEyes(House house, int heir) {
            scene.take(house.now);
            int open = EYES_MOST;
            int lucky = 0;
            for (int i = 0; i < AHEAD && open > 0; i++) {
                int sight = house.inSight(scene, house.goingOut(scene));
                if ((sight >> heir & 1) == 1) {
                    lucky += Math.max(0, open - house.hidden(scene, heir));
                }
                open = Math.min(open, leastHidden(house, sight));
                house.runNight(scene, 0);
            }
            return lucky;
        }

        private int leastHidden(House house, int bits) {
            int least = NEVER;
            for (int h = 0; h < house.heirs; h++) {
                if ((bits >> h & 1) == 1) {
                    least = Math.min(least, house.hidden(scene, h));
                }
            }
            return least;
        }

        int foundBySeed(House house, int seed, int n) {
            scene.take(house.now);
            long x = seed;
            for (int i = 0; i < n; i++) {
                x = moveBySeed(house, x);
                house.runNight(scene, house.eyes);
            }
            return house.heirsThat(scene, FOUND);
        }

        private long moveBySeed(House house, long start) {
            long x = start;
            for (int h = 0; h < house.heirs; h++) {
                x = (x * FACTOR + ADDED) % MODULUS;
                int to = (int) (x / CUT % ROOMS);
                if (scene.how[h] == IN && house.creaksBetween(scene.room[h], to) > 0) {
                    scene.go(h, to);
                }
            }
            return x;
        }
    }

    /** The soonest night in which one heir can be found, with the fewest creaks. */
    private static final class WayFinder {
        private static final int STAYS = STAYED_COUNTS + 1;
        private static final int PLACES = ROOMS * STAYS;

        int foundIn;
        int fewest;
        private final Scene scene = new Scene();
        // The fewest creaks by room and nights stayed: more than 5 of these hide no better.
        private final int[] ahead = new int[PLACES];
        private final int[] moved = new int[PLACES];

        void search(House house, int heir) {
            scene.take(house.now);
            foundIn = NONE;
            fewest = NONE;
            empty(ahead);
            lower(ahead, scene.room[heir], scene.stayed[heir], 0);
            for (int i = 0; i < WAY_NIGHTS && foundIn == NONE; i++) {
                spread(house, i > 0 || house.now.moved[heir] == 0);
                passNight(house, heir);
            }
        }

        private static void empty(int[] costs) {
            for (int p = 0; p < PLACES; p++) {
                costs[p] = NEVER;
            }
        }

        private static void lower(int[] costs, int room, int stayed, int cost) {
            int p = room * STAYS + Math.min(stayed, STAYED_COUNTS);
            costs[p] = Math.min(costs[p], cost);
        }

        private void spread(House house, boolean mayMove) {
            System.arraycopy(ahead, 0, moved, 0, PLACES);
            if (!mayMove) {
                return;
            }
            for (int p = 0; p < PLACES; p++) {
                if (ahead[p] != NEVER) {
                    spreadFrom(house, p / STAYS, ahead[p]);
                }
            }
        }

        private void spreadFrom(House house, int room, int cost) {
            for (int r = 0; r < ROOMS; r++) {
                int creaks = house.creaksBetween(room, r);
                if (creaks > 0) {
                    lower(moved, r, 0, cost + creaks);
                }
            }
        }

        /** Only the one heir changes in the scene: all others stay as they are. */
        private void passNight(House house, int heir) {
            int looked = house.lookedInto(scene.night);
            int best = NEVER;
            empty(ahead);
            for (int p = 0; p < PLACES; p++) {
                if (moved[p] == NEVER) {
                    continue;
                }
                scene.room[heir] = p / STAYS;
                scene.stayed[heir] = p % STAYS;
                int hidden = house.hidden(scene, heir);
                if (hidden < house.rule) {
                    continue;
                }
                if (scene.room[heir] == looked && hidden < house.eyes) {
                    best = Math.min(best, moved[p]);
                } else {
                    lower(ahead, scene.room[heir], scene.stayed[heir] + 1, moved[p]);
                }
            }
            if (best != NEVER) {
                foundIn = scene.night;
                fewest = best;
            }
            scene.night++;
        }
    }

    /** The ways of the shy one, counted by the room in which he is at one step. */
    private static final class Walks {
        private final long[] through = new long[ROOMS];
        private final long[] before = new long[ROOMS];
        private final long[] after = new long[ROOMS];
        private final long[] last = new long[ROOMS];

        /** Doors lead either way: so the rest of a way is counted backward as its start is forward. */
        void countThrough(House house, int m) {
            begin(house, 0, before);
            for (int step = 1; step <= m; step++) {
                extend(house, step, before);
            }
            begin(house, LAST_STEP, after);
            for (int step = LAST_STEP - 1; step >= m; step--) {
                extend(house, step, after);
            }
            for (int r = 0; r < ROOMS; r++) {
                through[r] = before[r] * after[r];
            }
        }

        private static void begin(House house, int step, long[] ends) {
            for (int r = 0; r < ROOMS; r++) {
                ends[r] = fits(house, step, r) ? 1 : 0;
            }
        }

        private void extend(House house, int step, long[] ends) {
            System.arraycopy(ends, 0, last, 0, ROOMS);
            for (int r = 0; r < ROOMS; r++) {
                ends[r] = fits(house, step, r) ? arriving(house, r) : 0;
            }
        }

        private long arriving(House house, int room) {
            long sum = last[room];
            for (int r = 0; r < ROOMS; r++) {
                if (house.creaksBetween(r, room) > 0) {
                    sum += last[r];
                }
            }
            return sum;
        }

        private static boolean fits(House house, int step, int room) {
            for (int i = 0; i < house.seens; i++) {
                boolean there = house.seenThere[i] == 1;
                if (house.seenStep[i] == step && (house.seenRoom[i] == room) != there) {
                    return false;
                }
            }
            return true;
        }

        long total() {
            long sum = 0;
            for (int r = 0; r < ROOMS; r++) {
                sum += through[r];
            }
            return sum;
        }

        int roomsPossible() {
            int bits = 0;
            for (int r = 0; r < ROOMS; r++) {
                if (through[r] > 0) {
                    bits |= 1 << r;
                }
            }
            return bits;
        }

        int roomThatTells() {
            long all = total();
            if (all == 0) {
                return NONE;
            }
            int best = NONE;
            long least = all + 1;
            for (int r = 0; r < ROOMS; r++) {
                long greater = Math.max(through[r], all - through[r]);
                if (greater < least) {
                    least = greater;
                    best = r;
                }
            }
            return best;
        }
    }

    /** Reads a text into a house, token by token, up to the first fault. */
    private static final class TextReader {
        private static final int END = 0, WORD = 1, NUMBER = 2, STOP = 3, ODD = 4;
        private static final int FIGURES_MOST = 2;
        private static final int FAULTS = -10;

        private byte[] bytes = new byte[0];
        private int size = 0;
        private int at = 0;
        private int start = 0;
        private int token = END;
        private int value = 0;
        private int fault = NONE;
        private int items = 0;

        /** How many items there are; -10 less the fault, if there is one. */
        int readInto(House house, byte[] text, int length) {
            bytes = text;
            size = Math.min(length, text.length);
            at = 0;
            fault = NONE;
            items = 0;
            advance();
            for (int i = 0; i < TEXT_MOST && goesOn(); i++) {
                takeItem(house);
            }
            return fault == NONE ? items : FAULTS - fault;
        }

        private boolean goesOn() {
            return fault == NONE && (items == 0 || token != END);
        }

        private void takeItem(House house) {
            if (items == 0) {
                takeHouse(house);
            } else if (isWord("room")) {
                takeRoom(house);
            } else if (isWord("door")) {
                takeDoor(house);
            } else if (isWord("list")) {
                takeList(house);
            } else if (isWord("heir") && house.heirs < HEIRS_MOST) {
                takeHeir(house);
            } else {
                fault = start;
            }
            takeStop();
            items++;
        }

        private void takeHouse(House house) {
            if (!isWord("house")) {
                fault = start;
                return;
            }
            advance();
            int eyes = number(0, EYES_MOST);
            int rule = number(0, RULE_MOST);
            if (fault == NONE) {
                house.restart(eyes, rule);
            }
        }

        private void takeRoom(House house) {
            advance();
            int k = number(0, ROOMS - 1);
            int hides = number(0, HIDES_MOST);
            if (fault == NONE) {
                house.hides[k] = hides;
            }
        }

        private void takeDoor(House house) {
            advance();
            int a = number(0, ROOMS - 1);
            int second = start;
            int b = number(0, ROOMS - 1);
            if (fault == NONE && a == b) {
                fault = second;
            }
            int creaks = number(1, CREAKS_MOST);
            if (fault == NONE) {
                house.hang(a, b, creaks);
            }
        }

        /** A 13th room is left for the stop, which it is not. */
        private void takeList(House house) {
            advance();
            for (int i = 0; i < LIST_MOST && (i == 0 || token == NUMBER); i++) {
                int room = number(0, ROOMS - 1);
                if (fault != NONE) {
                    return;
                }
                house.row[i] = room;
                house.rowSize = i + 1;
            }
        }

        private void takeHeir(House house) {
            advance();
            int kind = number(0, KIND_MOST);
            int room = number(0, ROOMS - 1);
            int poise = number(0, POISE_MOST);
            if (fault == NONE) {
                house.bring(kind, room, poise);
            }
        }

        private void takeStop() {
            if (fault == NONE && token != STOP) {
                fault = start;
            }
            if (fault == NONE) {
                advance();
            }
        }

        /** The number that stands here; behind a fault nothing is taken any more. */
        private int number(int least, int most) {
            if (fault != NONE) {
                return NONE;
            }
            if (token != NUMBER || !within(value, least, most)) {
                fault = start;
                return NONE;
            }
            int taken = value;
            advance();
            return taken;
        }

        private boolean isWord(String word) {
            if (token != WORD || at - start != word.length()) {
                return false;
            }
            for (int i = 0; i < word.length(); i++) {
                if (bytes[start + i] != word.charAt(i)) {
                    return false;
                }
            }
            return true;
        }

        private void advance() {
            while (at < size && bytes[at] == ' ') {
                at++;
            }
            start = at;
            if (at >= size) {
                token = END;
            } else if (isLetter(bytes[at])) {
                token = WORD;
                while (at < size && isLetter(bytes[at])) {
                    at++;
                }
            } else if (isFigure(bytes[at])) {
                value = 0;
                while (at < size && isFigure(bytes[at])) {
                    value = value * 10 + (bytes[at] - '0');
                    at++;
                }
                token = at - start <= FIGURES_MOST ? NUMBER : ODD;
            } else {
                token = bytes[at] == ';' ? STOP : ODD;
                at++;
            }
        }

        private static boolean isLetter(int c) {
            return c >= 'a' && c <= 'z';
        }

        private static boolean isFigure(int c) {
            return c >= '0' && c <= '9';
        }
    }
}
